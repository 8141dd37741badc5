/-! P27: calls that are refused by their arguments. -/
set_option maxHeartbeats 4000000 in
set_option maxRecDepth 100000 in
theorem c_L_thrown (l : Launch) (v : Int32) : Met l yL_thrown (Cond.code yL_thrown cL_thrown 1 (some .boolean) :: wsL_law) ({ frames := 0, cells := 0, slots := 0, locals := 0 } : Room) (va_Pc [.int v] (fun _ => True)) (rd_Q (some (.int (bI (thB v))))) 0 0 (nF) := by
  refine mt_0 (cc := cL_thrown) (maxL := 1) (ret := (some .boolean)) (by decide +kernel) (Nat.le_of_ble_eq_true rfl) ?_
  intro pX eX s mX below meth cX ls hx hb hr hml hown hts hlk hl
  have hl : lv_has ls 1 [(0, .int v)] := hl
  refine lv_iload_n hx hb dL_thrown_0 rfl (lv_at hl 0 rfl) ?_
  refine lv_ldc hx hb hown (hts _ wd6_0) dL_thrown_1 ?_
  refine lv_icmp_eq (tgt := 18) hx hb dL_thrown_3 (by decide) (fun c_3 => ?_) (fun c_3 => ?_)
  · skip
    refine lv_iconst (v := (nI 1)) hx hb dL_thrown_18 (by decide) ?_
    refine lv_goto (tgt := 23) hx hb dL_thrown_19 (by decide) ?_
    exact rd_z (by simp [thB, c_3, bI, nI_0, nI_o]) hx hb hr dL_thrown_23 hlk
  · skip
    refine lv_iload_n hx hb dL_thrown_6 rfl (lv_at hl 0 rfl) ?_
    refine lv_ldc hx hb hown (hts _ wd6_1) dL_thrown_7 ?_
    refine lv_icmp_eq (tgt := 18) hx hb dL_thrown_9 (by decide) (fun c_9 => ?_) (fun c_9 => ?_)
    · skip
      refine lv_iconst (v := (nI 1)) hx hb dL_thrown_18 (by decide) ?_
      refine lv_goto (tgt := 23) hx hb dL_thrown_19 (by decide) ?_
      exact rd_z (by simp [thB, c_3, c_9, bI, nI_0, nI_o]) hx hb hr dL_thrown_23 hlk
    · skip
      refine lv_iload_n hx hb dL_thrown_12 rfl (lv_at hl 0 rfl) ?_
      refine lv_ldc hx hb hown (hts _ wd6_2) dL_thrown_13 ?_
      refine lv_icmp_ne (tgt := 22) hx hb dL_thrown_15 (by decide) (fun c_15 => ?_) (fun c_15 => ?_)
      · skip
        refine lv_iconst (v := (nI 0)) hx hb dL_thrown_22 (by decide) ?_
        exact rd_z (by simp [thB, c_3, c_9, c_15, bI, nI_0, nI_o]) hx hb hr dL_thrown_23 hlk
      · skip
        refine lv_iconst (v := (nI 1)) hx hb dL_thrown_18 (by decide) ?_
        refine lv_goto (tgt := 23) hx hb dL_thrown_19 (by decide) ?_
        exact rd_z (by simp [thB, c_3, c_9, c_15, bI, nI_0, nI_o]) hx hb hr dL_thrown_23 hlk
set_option maxHeartbeats 4000000 in
set_option maxRecDepth 100000 in
theorem c_L_refuses (l : Launch) (hfl : l.stackTraces = false) (g : va_G) (cy : Nat → ClassId) (x a tr s0 s1 : Nat → Nat) (pa : Nat → Nat → Nat) (sz : Nat) (bd : Nat) (q : Sc) (σ : Nat → Nat) (Hh : Nat → Nat → Nat) (n : Nat) (K : Nat → Nat → Nat) (fl : Nat → Bool) (tx : Nat → Nat) (ln : Nat) (v : Nat) (hI : fI bd q σ Hh n K fl tx ln) (hv9 : v < 100000) (h1 : 1 ≤ σ 0) (hbd : bd + 5940 ≤ 100000) : Met l yL_refuses (Cond.code yL_refuses cL_refuses 10 (some .boolean) :: wsL_law) ({ frames := 10, cells := 100, slots := 600, locals := 201 } : Room) (va_Pc [.ref (x 0), .int (nI v)] (pr2 g cy (fQ cy x a tr s0 s1 pa q σ n fl tx ln) sz)) (wr_Q (fun _ : Sc => some (.int (bI true))) (fun u => fI bd u σ Hh n K fl tx ln) (fun u => fQ cy x a tr s0 s1 pa u σ n fl tx ln) g (va_A (fQ cy x a tr s0 s1 pa q σ n fl tx ln) sz)) 100 600 (va_A (fQ cy x a tr s0 s1 pa q σ n fl tx ln) sz) := by
  refine mt_p (cc := cL_refuses) (maxL := 10) (ret := some .boolean) (by decide +kernel) (Nat.le_of_ble_eq_true rfl) ?_
  intro pX eX s mX below meth cX ls A hx hb hr hml hown hts hlk hsz hAe hA hP hD hK hX hY hl
  subst hsz
  rw [← hAe]
  clear hAe
  have hl : lv_has ls 10 [(0, .ref (x 0)), (1, .int (nI v))] := hl
  have hS : va_S A s.heap s.heap [] := va_S.rf
  have hW := fI_wf hI
  have hn0 := hW.n0
  have hn1 := hW.n1
  have hh2 := hW.h2
  have hNN : NN = 4294967295 := rfl
  have g1 := ng_b (x := v) (e := σ 0) (k := 99) (by omega) (by decide) (by decide)
  have g2 := ng_b (x := v) (e := σ 1) (k := 99) (by omega) (by decide) (by decide)
  have g3 := ng_b (x := v) (e := 12) (k := 99) (by decide) (by decide) (by decide)
  have g4 := ng_b (x := v) (e := 8) (k := 99) (by decide) (by decide) (by decide)
  have g5 := ng_b (x := v) (e := 256) (k := 9) (by decide) (by decide) (by decide)
  have z0 := zg_b (x := v) (m := 0) (e := 256) (k := 9) (by decide) (by decide) (by decide) (by decide)
  have z1 := zg_b (x := v) (m := 0) (e := 4) (k := 9) (by decide) (by decide) (by decide) (by decide)
  have z2 := zg_b (x := v) (m := 0) (e := 501) (k := 9) (by decide) (by decide) (by decide) (by decide)
  have z3 := zg_b (x := v) (m := NN) (e := 256) (k := 9) (by decide) (by decide) (by decide) (by decide)
  have z4 := zg_b (x := v) (m := NN) (e := 100) (k := 9) (by decide) (by decide) (by decide) (by decide)
  have z5 := zg_b (x := v) (m := 0) (e := 100) (k := 9) (by decide) (by decide) (by decide) (by decide)
  have z6 := zg_b (x := v) (m := NN) (e := 51) (k := 9) (by decide) (by decide) (by decide) (by decide)
  have z7 := zg_b (x := v) (m := NN) (e := 9) (k := 9) (by decide) (by decide) (by decide) (by decide)
  refine lv_aload_n hx hb dL_refuses_0 rfl (lv_at hl 0 rfl) ?_
  refine lv_iconst (v := (nI 2)) hx hb dL_refuses_1 (by decide) ?_
  refine lv_iconst (v := (nI 0)) hx hb dL_refuses_2 (by decide) ?_
  refine lv_iconst (v := (nI 0)) hx hb dL_refuses_3 (by decide) ?_
  refine lv_iconst (v := (nI 0)) hx hb dL_refuses_4 (by decide) ?_
  refine wr_callS (pre := []) (wc := fQ cy x a tr s0 s1 pa q σ n fl tx ln) (va_runS (As := [.ref (x 0), .int (nI 2), .int (nI 0), .int (nI 0), .int (nI 0)]) (rest := []) ⟨hx, hb, hml, hown, hts⟩ (c_L_call_2 l hfl g cy x a tr s0 s1 pa s.heap.size bd q σ Hh n K fl tx ln (nI 0) (nI 0) (nI 0) hI ) ⟨(cB 5 hts wd9_11 wd5_14 wd9_9 rfl rfl (by decide +kernel) ⟨Nat.le_of_ble_eq_true rfl, Nat.le_of_ble_eq_true rfl⟩), hts _ wd9_10⟩ (ps2 (ws := [] ++ fQ cy x a tr s0 s1 pa q σ n fl tx ln) hK hP hD hS hA hX hY _ nd_suffix at_suffix) rfl rfl hl.1 rfl (lv_room (Nat.le_of_ble_eq_true rfl)) dL_refuses_5 ⟨by show _ ≤ 100; omega, by show _ ≤ 600; omega⟩) hP hD hS hA (fun _ => fQ_ad) (fun q H locs hI hP hD hS => ?_)
  have hP : va_P g vwCl (fQ cy x a tr s0 s1 pa q σ n fl tx ln) H := hP
  have hD : va_D A (fQ cy x a tr s0 s1 pa q σ n fl tx ln) := hD
  refine ti (show an (fAbo (nI 0)) (nI (nbd σ (nI 0).toNatClampNeg)) = (nI (σ 0)) from (v_ab (w := 0) (by decide))) ?_
  show W _ _ _ _ _ _ _ _ _ _ _ _ _ _ _ (F0 mX 8 ls [.int (nI (σ 0))])
  refine lv_istore_n (lv' := [(2, .int (nI (σ 0))), (0, .ref (x 0)), (1, .int (nI v))]) hx hb dL_refuses_8 rfl hl (by decide) rfl (fun ls hl => ?_)
  refine lv_aload_n hx hb dL_refuses_9 rfl (lv_at hl 1 rfl) ?_
  refine lv_iconst (v := (nI 2)) hx hb dL_refuses_10 (by decide) ?_
  refine lv_iconst (v := (nI 2)) hx hb dL_refuses_11 (by decide) ?_
  refine lv_iconst (v := (nI 0)) hx hb dL_refuses_12 (by decide) ?_
  refine lv_iconst (v := (nI 0)) hx hb dL_refuses_13 (by decide) ?_
  refine wr_callS (pre := []) (wc := fQ cy x a tr s0 s1 pa q σ n fl tx ln) (va_runS (As := [.ref (x 0), .int (nI 2), .int (nI 2), .int (nI 0), .int (nI 0)]) (rest := []) ⟨hx, hb, hml, hown, hts⟩ (c_L_call_2 l hfl g cy x a tr s0 s1 pa H.size bd q σ Hh n K fl tx ln (nI 2) (nI 0) (nI 0) hI ) ⟨(cB 5 hts wd9_11 wd5_14 wd9_9 rfl rfl (by decide +kernel) ⟨Nat.le_of_ble_eq_true rfl, Nat.le_of_ble_eq_true rfl⟩), hts _ wd9_10⟩ (ps2 (ws := [] ++ fQ cy x a tr s0 s1 pa q σ n fl tx ln) hK hP hD hS hA hX hY _ nd_suffix at_suffix) rfl rfl hl.1 rfl (lv_room (Nat.le_of_ble_eq_true rfl)) dL_refuses_14 ⟨by show _ ≤ 100; omega, by show _ ≤ 600; omega⟩) hP hD hS hA (fun _ => fQ_ad) (fun q H locs hI hP hD hS => ?_)
  have hP : va_P g vwCl (fQ cy x a tr s0 s1 pa q σ n fl tx ln) H := hP
  have hD : va_D A (fQ cy x a tr s0 s1 pa q σ n fl tx ln) := hD
  refine ti (show an (fAbo (nI 2)) (nI (nbd σ (nI 2).toNatClampNeg)) = (nI (σ 1)) from (v_ab (w := 2) (by decide))) ?_
  show W _ _ _ _ _ _ _ _ _ _ _ _ _ _ _ (F0 mX 17 ls [.int (nI (σ 1))])
  refine lv_istore_n (lv' := [(3, .int (nI (σ 1))), (2, .int (nI (σ 0))), (0, .ref (x 0)), (1, .int (nI v))]) hx hb dL_refuses_17 rfl hl (by decide) rfl (fun ls hl => ?_)
  refine jn_i (pcj := 39) (ls := ls) (st := []) (fun v9 => v9 = (nI (ng v (σ 0) 99))) ?_ (fun jn39 => ?_)
  · intro v9 hv9
    subst hv9
    refine lv_istore (lv' := [(4, .int (nI (ng v (σ 0) 99))), (3, .int (nI (σ 1))), (2, .int (nI (σ 0))), (0, .ref (x 0)), (1, .int (nI v))]) hx hb dL_refuses_39 hl (by decide) rfl (fun ls hl => ?_)
    refine jn_i (pcj := 62) (ls := ls) (st := []) (fun v9 => v9 = (nI (ng v (σ 1) 99))) ?_ (fun jn62 => ?_)
    · intro v9 hv9
      subst hv9
      refine lv_istore (lv' := [(5, .int (nI (ng v (σ 1) 99))), (4, .int (nI (ng v (σ 0) 99))), (3, .int (nI (σ 1))), (2, .int (nI (σ 0))), (0, .ref (x 0)), (1, .int (nI v))]) hx hb dL_refuses_62 hl (by decide) rfl (fun ls hl => ?_)
      refine jn_i (pcj := 86) (ls := ls) (st := []) (fun v9 => v9 = (nI (ng v 12 99))) ?_ (fun jn86 => ?_)
      · intro v9 hv9
        subst hv9
        refine lv_istore (lv' := [(6, .int (nI (ng v 12 99))), (5, .int (nI (ng v (σ 1) 99))), (4, .int (nI (ng v (σ 0) 99))), (3, .int (nI (σ 1))), (2, .int (nI (σ 0))), (0, .ref (x 0)), (1, .int (nI v))]) hx hb dL_refuses_86 hl (by decide) rfl (fun ls hl => ?_)
        refine jn_i (pcj := 110) (ls := ls) (st := []) (fun v9 => v9 = (nI (ng v 8 99))) ?_ (fun jn110 => ?_)
        · intro v9 hv9
          subst hv9
          refine lv_istore (lv' := [(7, .int (nI (ng v 8 99))), (6, .int (nI (ng v 12 99))), (5, .int (nI (ng v (σ 1) 99))), (4, .int (nI (ng v (σ 0) 99))), (3, .int (nI (σ 1))), (2, .int (nI (σ 0))), (0, .ref (x 0)), (1, .int (nI v))]) hx hb dL_refuses_110 hl (by decide) rfl (fun ls hl => ?_)
          refine lv_iload_n hx hb dL_refuses_112 rfl (lv_at hl 7 rfl) ?_
          refine lv_bipush (v := (nI 12)) hx hb dL_refuses_113 (by decide) ?_
          refine lv_irem hx hb dL_refuses_115 (nI_ne0 (by omega) (by omega)) ?_
          refine ti (pk_rem (a := v) (d := 12) (by omega) (by omega) (by omega)) ?_
          refine lv_istore (lv' := [(8, .int (nI (v % 12))), (7, .int (nI (ng v 8 99))), (6, .int (nI (ng v 12 99))), (5, .int (nI (ng v (σ 1) 99))), (4, .int (nI (ng v (σ 0) 99))), (3, .int (nI (σ 1))), (2, .int (nI (σ 0))), (0, .ref (x 0)), (1, .int (nI v))]) hx hb dL_refuses_116 hl (by decide) rfl (fun ls hl => ?_)
          refine lv_aload_n hx hb dL_refuses_118 rfl (lv_at hl 7 rfl) ?_
          refine lv_iconst (v := (nI 0)) hx hb dL_refuses_119 (by decide) ?_
          refine jn_i (pcj := 143) (ls := ls) (st := [.int (nI 0), .ref (x 0)]) (fun v9 => v9 = (nI (ng v 256 9))) ?_ (fun jn143 => ?_)
          · intro v9 hv9
            subst hv9
            refine lv_iconst (v := (nI 0)) hx hb dL_refuses_143 (by decide) ?_
            refine lv_iconst (v := (nI 0)) hx hb dL_refuses_144 (by decide) ?_
            refine wr_callS (pre := []) (wc := fQ cy x a tr s0 s1 pa q σ n fl tx ln) (va_runS (As := [.ref (x 0), .int (nI 0), .int (nI (ng v 256 9)), .int (nI 0), .int (nI 0)]) (rest := []) ⟨hx, hb, hml, hown, hts⟩ (c_L_call_0 l hfl g cy x a tr s0 s1 pa H.size bd q σ Hh n K fl tx ln (nI (ng v 256 9)) (nI 0) (nI 0) hI ) ⟨(cB 5 hts wd9_11 wd5_14 wd9_9 rfl rfl (by decide +kernel) ⟨Nat.le_of_ble_eq_true rfl, Nat.le_of_ble_eq_true rfl⟩), hts _ wd9_10⟩ (ps2 (ws := [] ++ fQ cy x a tr s0 s1 pa q σ n fl tx ln) hK hP hD hS hA hX hY _ nd_suffix at_suffix) rfl rfl hl.1 rfl (lv_room (Nat.le_of_ble_eq_true rfl)) dL_refuses_145 ⟨by show _ ≤ 100; omega, by show _ ≤ 600; omega⟩) hP hD hS hA (fun _ => fQ_ad) (fun q H locs hI hP hD hS => ?_)
            have h9 : fApp (nI (ng v 256 9)) ln = 2 := (fApp_2 (by omega) (by omega))
            have h8 : ¬ fApp (nI (ng v 256 9)) ln = 0 := by rw [h9]; decide
            simp only [if_neg h8] at hI hP hD
            have hP : va_P g vwCl (fQ cy x a tr s0 s1 pa q σ n fl tx ln) H := hP
            have hD : va_D A (fQ cy x a tr s0 s1 pa q σ n fl tx ln) := hD
            refine ti (show an (fApp (nI (ng v 256 9)) ln) (nI (ln + 1)) = (-9999002) from (by rw [an_k h9 (by decide)]; rfl)) ?_
            show W _ _ _ _ _ _ _ _ _ _ _ _ _ _ _ (F0 mX 148 ls [.int (-9999002)])
            refine lv_ldc hx hb hown (hts _ wd6_1) dL_refuses_148 ?_
            refine lv_icmp_ne (tgt := 895) hx hb dL_refuses_150 (by decide) (fun c_150 => absurd rfl c_150) (fun _ => ?_)
            refine lv_aload_n hx hb dL_refuses_153 rfl (lv_at hl 7 rfl) ?_
            refine lv_iconst (v := (nI 2)) hx hb dL_refuses_154 (by decide) ?_
            refine lv_bipush (v := (nI 11)) hx hb dL_refuses_155 (by decide) ?_
            refine lv_iload_n hx hb dL_refuses_157 rfl (lv_at hl 8 rfl) ?_
            refine lv_bipush (v := (nI 50)) hx hb dL_refuses_158 (by decide) ?_
            refine lv_irem hx hb dL_refuses_160 (nI_ne0 (by omega) (by omega)) ?_
            refine ti (pk_rem (a := v) (d := 50) (by omega) (by omega) (by omega)) ?_
            refine lv_iadd hx hb dL_refuses_161 ?_
            refine ti (nI_add 11 (v % 50)) ?_
            refine lv_iconst (v := (nI 0)) hx hb dL_refuses_162 (by decide) ?_
            refine lv_iconst (v := (nI 0)) hx hb dL_refuses_163 (by decide) ?_
            refine wr_callS (pre := []) (wc := fQ cy x a tr s0 s1 pa q σ n fl tx ln) (va_runS (As := [.ref (x 0), .int (nI 2), .int (nI (11 + (v % 50))), .int (nI 0), .int (nI 0)]) (rest := []) ⟨hx, hb, hml, hown, hts⟩ (c_L_call_2 l hfl g cy x a tr s0 s1 pa H.size bd q σ Hh n K fl tx ln (nI (11 + (v % 50))) (nI 0) (nI 0) hI ) ⟨(cB 5 hts wd9_11 wd5_14 wd9_9 rfl rfl (by decide +kernel) ⟨Nat.le_of_ble_eq_true rfl, Nat.le_of_ble_eq_true rfl⟩), hts _ wd9_10⟩ (ps2 (ws := [] ++ fQ cy x a tr s0 s1 pa q σ n fl tx ln) hK hP hD hS hA hX hY _ nd_suffix at_suffix) rfl rfl hl.1 rfl (lv_room (Nat.le_of_ble_eq_true rfl)) dL_refuses_164 ⟨by show _ ≤ 100; omega, by show _ ≤ 600; omega⟩) hP hD hS hA (fun _ => fQ_ad) (fun q H locs hI hP hD hS => ?_)
            have h9 : fAbo (nI (11 + (v % 50))) = 2 := (fAbo_2 (by omega) (by omega))
            have hP : va_P g vwCl (fQ cy x a tr s0 s1 pa q σ n fl tx ln) H := hP
            have hD : va_D A (fQ cy x a tr s0 s1 pa q σ n fl tx ln) := hD
            refine ti (show an (fAbo (nI (11 + (v % 50)))) (nI (nbd σ (nI (11 + (v % 50))).toNatClampNeg)) = (-9999002) from (by rw [an_k h9 (by decide)]; rfl)) ?_
            show W _ _ _ _ _ _ _ _ _ _ _ _ _ _ _ (F0 mX 167 ls [.int (-9999002)])
            refine lv_ldc hx hb hown (hts _ wd6_1) dL_refuses_167 ?_
            refine lv_icmp_ne (tgt := 895) hx hb dL_refuses_169 (by decide) (fun c_169 => absurd rfl c_169) (fun _ => ?_)
            refine lv_aload_n hx hb dL_refuses_172 rfl (lv_at hl 7 rfl) ?_
            refine lv_iconst (v := (nI 3)) hx hb dL_refuses_173 (by decide) ?_
            refine lv_iload hx hb dL_refuses_174 (lv_at hl 4 rfl) ?_
            refine lv_bipush (v := (nI 99)) hx hb dL_refuses_176 (by decide) ?_
            refine lv_iconst (v := (nI 0)) hx hb dL_refuses_178 (by decide) ?_
            refine wr_callS (pre := []) (wc := fQ cy x a tr s0 s1 pa q σ n fl tx ln) (va_runS (As := [.ref (x 0), .int (nI 3), .int (nI (ng v (σ 0) 99)), .int (nI 99), .int (nI 0)]) (rest := []) ⟨hx, hb, hml, hown, hts⟩ (c_L_call_3 l hfl g cy x a tr s0 s1 pa H.size bd q σ Hh n K fl tx ln (nI (ng v (σ 0) 99)) (nI 99) (nI 0) hI ) ⟨(cB 5 hts wd9_11 wd5_14 wd9_9 rfl rfl (by decide +kernel) ⟨Nat.le_of_ble_eq_true rfl, Nat.le_of_ble_eq_true rfl⟩), hts _ wd9_10⟩ (ps2 (ws := [] ++ fQ cy x a tr s0 s1 pa q σ n fl tx ln) hK hP hD hS hA hX hY _ nd_suffix at_suffix) rfl rfl hl.1 rfl (lv_room (Nat.le_of_ble_eq_true rfl)) dL_refuses_179 ⟨by show _ ≤ 100; omega, by show _ ≤ 600; omega⟩) hP hD hS hA (fun _ => fQ_ad) (fun q H locs hI hP hD hS => ?_)
            have h9 : fDog σ (nI (ng v (σ 0) 99)) (nI 99) = 1 := (fDog_1 hn0 (by omega) (by omega))
            have hP : va_P g vwCl (fQ cy x a tr s0 s1 pa q σ n fl tx ln) H := hP
            have hD : va_D A (fQ cy x a tr s0 s1 pa q σ n fl tx ln) := hD
            refine ti (show an (fDog σ (nI (ng v (σ 0) 99)) (nI 99)) (nI (ndg σ (nI (ng v (σ 0) 99)).toNatClampNeg (nI 99).toNatClampNeg)) = (-9999001) from (by rw [an_k h9 (by decide)]; rfl)) ?_
            show W _ _ _ _ _ _ _ _ _ _ _ _ _ _ _ (F0 mX 182 ls [.int (-9999001)])
            refine lv_ldc hx hb hown (hts _ wd6_0) dL_refuses_182 ?_
            refine lv_icmp_ne (tgt := 895) hx hb dL_refuses_184 (by decide) (fun c_184 => absurd rfl c_184) (fun _ => ?_)
            refine lv_aload_n hx hb dL_refuses_187 rfl (lv_at hl 7 rfl) ?_
            refine lv_iconst (v := (nI 3)) hx hb dL_refuses_188 (by decide) ?_
            refine lv_iconst (v := (nI 0)) hx hb dL_refuses_189 (by decide) ?_
            refine lv_bipush (v := (nI 11)) hx hb dL_refuses_190 (by decide) ?_
            refine lv_iload_n hx hb dL_refuses_192 rfl (lv_at hl 8 rfl) ?_
            refine lv_bipush (v := (nI 9)) hx hb dL_refuses_193 (by decide) ?_
            refine lv_irem hx hb dL_refuses_195 (nI_ne0 (by omega) (by omega)) ?_
            refine ti (pk_rem (a := v) (d := 9) (by omega) (by omega) (by omega)) ?_
            refine lv_iadd hx hb dL_refuses_196 ?_
            refine ti (nI_add 11 (v % 9)) ?_
            refine lv_iconst (v := (nI 0)) hx hb dL_refuses_197 (by decide) ?_
            refine wr_callS (pre := []) (wc := fQ cy x a tr s0 s1 pa q σ n fl tx ln) (va_runS (As := [.ref (x 0), .int (nI 3), .int (nI 0), .int (nI (11 + (v % 9))), .int (nI 0)]) (rest := []) ⟨hx, hb, hml, hown, hts⟩ (c_L_call_3 l hfl g cy x a tr s0 s1 pa H.size bd q σ Hh n K fl tx ln (nI 0) (nI (11 + (v % 9))) (nI 0) hI ) ⟨(cB 5 hts wd9_11 wd5_14 wd9_9 rfl rfl (by decide +kernel) ⟨Nat.le_of_ble_eq_true rfl, Nat.le_of_ble_eq_true rfl⟩), hts _ wd9_10⟩ (ps2 (ws := [] ++ fQ cy x a tr s0 s1 pa q σ n fl tx ln) hK hP hD hS hA hX hY _ nd_suffix at_suffix) rfl rfl hl.1 rfl (lv_room (Nat.le_of_ble_eq_true rfl)) dL_refuses_198 ⟨by show _ ≤ 100; omega, by show _ ≤ 600; omega⟩) hP hD hS hA (fun _ => fQ_ad) (fun q H locs hI hP hD hS => ?_)
            have h9 : fDog σ (nI 0) (nI (11 + (v % 9))) = 2 := (fDog_2 hn0 (by omega) (by omega) (by omega))
            have hP : va_P g vwCl (fQ cy x a tr s0 s1 pa q σ n fl tx ln) H := hP
            have hD : va_D A (fQ cy x a tr s0 s1 pa q σ n fl tx ln) := hD
            refine ti (show an (fDog σ (nI 0) (nI (11 + (v % 9)))) (nI (ndg σ (nI 0).toNatClampNeg (nI (11 + (v % 9))).toNatClampNeg)) = (-9999002) from (by rw [an_k h9 (by decide)]; rfl)) ?_
            show W _ _ _ _ _ _ _ _ _ _ _ _ _ _ _ (F0 mX 201 ls [.int (-9999002)])
            refine lv_ldc hx hb hown (hts _ wd6_1) dL_refuses_201 ?_
            refine lv_icmp_ne (tgt := 895) hx hb dL_refuses_203 (by decide) (fun c_203 => absurd rfl c_203) (fun _ => ?_)
            refine lv_aload_n hx hb dL_refuses_206 rfl (lv_at hl 7 rfl) ?_
            refine lv_iconst (v := (nI 4)) hx hb dL_refuses_207 (by decide) ?_
            refine lv_iload hx hb dL_refuses_208 (lv_at hl 3 rfl) ?_
            refine lv_bipush (v := (nI 99)) hx hb dL_refuses_210 (by decide) ?_
            refine lv_iconst (v := (nI 0)) hx hb dL_refuses_212 (by decide) ?_
            refine wr_callS (pre := []) (wc := fQ cy x a tr s0 s1 pa q σ n fl tx ln) (va_runS (As := [.ref (x 0), .int (nI 4), .int (nI (ng v (σ 1) 99)), .int (nI 99), .int (nI 0)]) (rest := []) ⟨hx, hb, hml, hown, hts⟩ (c_L_call_4 l hfl g cy x a tr s0 s1 pa H.size bd q σ Hh n K fl tx ln (nI (ng v (σ 1) 99)) (nI 99) (nI 0) hI ) ⟨(cB 5 hts wd9_11 wd5_14 wd9_9 rfl rfl (by decide +kernel) ⟨Nat.le_of_ble_eq_true rfl, Nat.le_of_ble_eq_true rfl⟩), hts _ wd9_10⟩ (ps2 (ws := [] ++ fQ cy x a tr s0 s1 pa q σ n fl tx ln) hK hP hD hS hA hX hY _ nd_suffix at_suffix) rfl rfl hl.1 rfl (lv_room (Nat.le_of_ble_eq_true rfl)) dL_refuses_213 ⟨by show _ ≤ 100; omega, by show _ ≤ 600; omega⟩) hP hD hS hA (fun _ => fQ_ad) (fun q H locs hI hP hD hS => ?_)
            have h9 : fSig σ (nI (ng v (σ 1) 99)) (nI 99) = 1 := (fSig_1 hn1 (by omega) (by omega))
            have hP : va_P g vwCl (fQ cy x a tr s0 s1 pa q σ n fl tx ln) H := hP
            have hD : va_D A (fQ cy x a tr s0 s1 pa q σ n fl tx ln) := hD
            refine ti (show an (fSig σ (nI (ng v (σ 1) 99)) (nI 99)) (nI (nsg σ (nI (ng v (σ 1) 99)).toNatClampNeg (nI 99).toNatClampNeg)) = (-9999001) from (by rw [an_k h9 (by decide)]; rfl)) ?_
            show W _ _ _ _ _ _ _ _ _ _ _ _ _ _ _ (F0 mX 216 ls [.int (-9999001)])
            refine lv_ldc hx hb hown (hts _ wd6_0) dL_refuses_216 ?_
            refine lv_icmp_ne (tgt := 895) hx hb dL_refuses_218 (by decide) (fun c_218 => absurd rfl c_218) (fun _ => ?_)
            refine lv_aload_n hx hb dL_refuses_221 rfl (lv_at hl 7 rfl) ?_
            refine lv_iconst (v := (nI 5)) hx hb dL_refuses_222 (by decide) ?_
            refine lv_iload hx hb dL_refuses_223 (lv_at hl 1 rfl) ?_
            refine lv_iconst (v := (nI 0)) hx hb dL_refuses_225 (by decide) ?_
            refine lv_iconst (v := (nI 0)) hx hb dL_refuses_226 (by decide) ?_
            refine wr_callS (pre := []) (wc := fQ cy x a tr s0 s1 pa q σ n fl tx ln) (va_runS (As := [.ref (x 0), .int (nI 5), .int (nI (ng v 8 99)), .int (nI 0), .int (nI 0)]) (rest := []) ⟨hx, hb, hml, hown, hts⟩ (c_L_call_5 l hfl g cy x a tr s0 s1 pa H.size bd q σ Hh n K fl tx ln (nI (ng v 8 99)) (nI 0) (nI 0) hI ) ⟨(cB 5 hts wd9_11 wd5_14 wd9_9 rfl rfl (by decide +kernel) ⟨Nat.le_of_ble_eq_true rfl, Nat.le_of_ble_eq_true rfl⟩), hts _ wd9_10⟩ (ps2 (ws := [] ++ fQ cy x a tr s0 s1 pa q σ n fl tx ln) hK hP hD hS hA hX hY _ nd_suffix at_suffix) rfl rfl hl.1 rfl (lv_room (Nat.le_of_ble_eq_true rfl)) dL_refuses_227 ⟨by show _ ≤ 100; omega, by show _ ≤ 600; omega⟩) hP hD hS hA (fun _ => fQ_ad) (fun q H locs hI hP hD hS => ?_)
            have h9 : fPur (nI (ng v 8 99)) = 1 := (fPur_1 (by omega) (by omega))
            have hP : va_P g vwCl (fQ cy x a tr s0 s1 pa q σ n fl tx ln) H := hP
            have hD : va_D A (fQ cy x a tr s0 s1 pa q σ n fl tx ln) := hD
            refine ti (show an (fPur (nI (ng v 8 99))) (nI (σ (8 + (nI (ng v 8 99)).toNatClampNeg))) = (-9999001) from (by rw [an_k h9 (by decide)]; rfl)) ?_
            show W _ _ _ _ _ _ _ _ _ _ _ _ _ _ _ (F0 mX 230 ls [.int (-9999001)])
            refine lv_ldc hx hb hown (hts _ wd6_0) dL_refuses_230 ?_
            refine lv_icmp_ne (tgt := 895) hx hb dL_refuses_232 (by decide) (fun c_232 => absurd rfl c_232) (fun _ => ?_)
            refine lv_aload_n hx hb dL_refuses_235 rfl (lv_at hl 7 rfl) ?_
            refine lv_bipush (v := (nI 6)) hx hb dL_refuses_236 (by decide) ?_
            refine lv_iload hx hb dL_refuses_238 (lv_at hl 2 rfl) ?_
            refine lv_iconst (v := (nI 0)) hx hb dL_refuses_240 (by decide) ?_
            refine lv_bipush (v := (nI 9)) hx hb dL_refuses_241 (by decide) ?_
            refine wr_callS (pre := []) (wc := fQ cy x a tr s0 s1 pa q σ n fl tx ln) (va_runS (As := [.ref (x 0), .int (nI 6), .int (nI (ng v 12 99)), .int (nI 0), .int (nI 9)]) (rest := []) ⟨hx, hb, hml, hown, hts⟩ (c_L_call_6 l hfl g cy x a tr s0 s1 pa H.size bd q σ Hh n K fl tx ln (nI (ng v 12 99)) (nI 0) (nI 9) hI ) ⟨(cB 5 hts wd9_11 wd5_14 wd9_9 rfl rfl (by decide +kernel) ⟨Nat.le_of_ble_eq_true rfl, Nat.le_of_ble_eq_true rfl⟩), hts _ wd9_10⟩ (ps2 (ws := [] ++ fQ cy x a tr s0 s1 pa q σ n fl tx ln) hK hP hD hS hA hX hY _ nd_suffix at_suffix) rfl rfl hl.1 rfl (lv_room (Nat.le_of_ble_eq_true rfl)) dL_refuses_243 ⟨by show _ ≤ 100; omega, by show _ ≤ 600; omega⟩) hP hD hS hA (fun _ => fQ_ad) (fun q H locs hI hP hD hS => ?_)
            have h9 : fApa (nI (ng v 12 99)) (nI 0) (nI 9) = 1 := (fApa_1a (by omega) (by omega))
            have hP : va_P g vwCl (fQ cy x a tr s0 s1 pa q σ n fl tx ln) H := hP
            have hD : va_D A (fQ cy x a tr s0 s1 pa q σ n fl tx ln) := hD
            refine ti (show an (fApa (nI (ng v 12 99)) (nI 0) (nI 9)) (wv σ (12 * (nI (ng v 12 99)).toNatClampNeg + (nI 0).toNatClampNeg)) = (-9999001) from (by rw [an_k h9 (by decide)]; rfl)) ?_
            show W _ _ _ _ _ _ _ _ _ _ _ _ _ _ _ (F0 mX 246 ls [.int (-9999001)])
            refine lv_ldc hx hb hown (hts _ wd6_0) dL_refuses_246 ?_
            refine lv_icmp_ne (tgt := 895) hx hb dL_refuses_248 (by decide) (fun c_248 => absurd rfl c_248) (fun _ => ?_)
            refine lv_aload_n hx hb dL_refuses_251 rfl (lv_at hl 7 rfl) ?_
            refine lv_bipush (v := (nI 6)) hx hb dL_refuses_252 (by decide) ?_
            refine lv_iconst (v := (nI 0)) hx hb dL_refuses_254 (by decide) ?_
            refine lv_iload hx hb dL_refuses_255 (lv_at hl 2 rfl) ?_
            refine lv_bipush (v := (nI 9)) hx hb dL_refuses_257 (by decide) ?_
            refine wr_callS (pre := []) (wc := fQ cy x a tr s0 s1 pa q σ n fl tx ln) (va_runS (As := [.ref (x 0), .int (nI 6), .int (nI 0), .int (nI (ng v 12 99)), .int (nI 9)]) (rest := []) ⟨hx, hb, hml, hown, hts⟩ (c_L_call_6 l hfl g cy x a tr s0 s1 pa H.size bd q σ Hh n K fl tx ln (nI 0) (nI (ng v 12 99)) (nI 9) hI ) ⟨(cB 5 hts wd9_11 wd5_14 wd9_9 rfl rfl (by decide +kernel) ⟨Nat.le_of_ble_eq_true rfl, Nat.le_of_ble_eq_true rfl⟩), hts _ wd9_10⟩ (ps2 (ws := [] ++ fQ cy x a tr s0 s1 pa q σ n fl tx ln) hK hP hD hS hA hX hY _ nd_suffix at_suffix) rfl rfl hl.1 rfl (lv_room (Nat.le_of_ble_eq_true rfl)) dL_refuses_259 ⟨by show _ ≤ 100; omega, by show _ ≤ 600; omega⟩) hP hD hS hA (fun _ => fQ_ad) (fun q H locs hI hP hD hS => ?_)
            have h9 : fApa (nI 0) (nI (ng v 12 99)) (nI 9) = 1 := (fApa_1b (by omega) (by omega))
            have hP : va_P g vwCl (fQ cy x a tr s0 s1 pa q σ n fl tx ln) H := hP
            have hD : va_D A (fQ cy x a tr s0 s1 pa q σ n fl tx ln) := hD
            refine ti (show an (fApa (nI 0) (nI (ng v 12 99)) (nI 9)) (wv σ (12 * (nI 0).toNatClampNeg + (nI (ng v 12 99)).toNatClampNeg)) = (-9999001) from (by rw [an_k h9 (by decide)]; rfl)) ?_
            show W _ _ _ _ _ _ _ _ _ _ _ _ _ _ _ (F0 mX 262 ls [.int (-9999001)])
            refine lv_ldc hx hb hown (hts _ wd6_0) dL_refuses_262 ?_
            refine lv_icmp_ne (tgt := 895) hx hb dL_refuses_264 (by decide) (fun c_264 => absurd rfl c_264) (fun _ => ?_)
            refine lv_aload_n hx hb dL_refuses_267 rfl (lv_at hl 7 rfl) ?_
            refine lv_bipush (v := (nI 6)) hx hb dL_refuses_268 (by decide) ?_
            refine lv_iconst (v := (nI 0)) hx hb dL_refuses_270 (by decide) ?_
            refine lv_iconst (v := (nI 0)) hx hb dL_refuses_271 (by decide) ?_
            refine lv_iconst (v := (nI 2)) hx hb dL_refuses_272 (by decide) ?_
            refine lv_iload_n hx hb dL_refuses_273 rfl (lv_at hl 8 rfl) ?_
            refine lv_bipush (v := (nI 9)) hx hb dL_refuses_274 (by decide) ?_
            refine lv_irem hx hb dL_refuses_276 (nI_ne0 (by omega) (by omega)) ?_
            refine ti (pk_rem (a := v) (d := 9) (by omega) (by omega) (by omega)) ?_
            refine lv_iadd hx hb dL_refuses_277 ?_
            refine ti (nI_add 2 (v % 9)) ?_
            refine wr_callS (pre := []) (wc := fQ cy x a tr s0 s1 pa q σ n fl tx ln) (va_runS (As := [.ref (x 0), .int (nI 6), .int (nI 0), .int (nI 0), .int (nI (2 + (v % 9)))]) (rest := []) ⟨hx, hb, hml, hown, hts⟩ (c_L_call_6 l hfl g cy x a tr s0 s1 pa H.size bd q σ Hh n K fl tx ln (nI 0) (nI 0) (nI (2 + (v % 9))) hI ) ⟨(cB 5 hts wd9_11 wd5_14 wd9_9 rfl rfl (by decide +kernel) ⟨Nat.le_of_ble_eq_true rfl, Nat.le_of_ble_eq_true rfl⟩), hts _ wd9_10⟩ (ps2 (ws := [] ++ fQ cy x a tr s0 s1 pa q σ n fl tx ln) hK hP hD hS hA hX hY _ nd_suffix at_suffix) rfl rfl hl.1 rfl (lv_room (Nat.le_of_ble_eq_true rfl)) dL_refuses_278 ⟨by show _ ≤ 100; omega, by show _ ≤ 600; omega⟩) hP hD hS hA (fun _ => fQ_ad) (fun q H locs hI hP hD hS => ?_)
            have h9 : fApa (nI 0) (nI 0) (nI (2 + (v % 9))) = 2 := (fApa_2 (by omega) (by omega) (by omega) (by omega))
            have hP : va_P g vwCl (fQ cy x a tr s0 s1 pa q σ n fl tx ln) H := hP
            have hD : va_D A (fQ cy x a tr s0 s1 pa q σ n fl tx ln) := hD
            refine ti (show an (fApa (nI 0) (nI 0) (nI (2 + (v % 9)))) (wv σ (12 * (nI 0).toNatClampNeg + (nI 0).toNatClampNeg)) = (-9999002) from (by rw [an_k h9 (by decide)]; rfl)) ?_
            show W _ _ _ _ _ _ _ _ _ _ _ _ _ _ _ (F0 mX 281 ls [.int (-9999002)])
            refine lv_ldc hx hb hown (hts _ wd6_1) dL_refuses_281 ?_
            refine lv_icmp_ne (tgt := 895) hx hb dL_refuses_283 (by decide) (fun c_283 => absurd rfl c_283) (fun _ => ?_)
            refine lv_aload_n hx hb dL_refuses_286 rfl (lv_at hl 7 rfl) ?_
            refine lv_iconst (v := (nI 0)) hx hb dL_refuses_287 (by decide) ?_
            refine lv_iconst (v := (nI 0)) hx hb dL_refuses_288 (by decide) ?_
            refine lv_iload hx hb dL_refuses_289 (lv_at hl 2 rfl) ?_
            refine lv_iconst (v := (nI 0)) hx hb dL_refuses_291 (by decide) ?_
            refine wr_callS (pre := []) (wc := fQ cy x a tr s0 s1 pa q σ n fl tx ln) (vx_runSW (hh := [(0, 9, 10, 13), (0, 9, 15, 16), (0, 9, 20, 19)]) (As := [.ref (x 0), .int (nI 0), .int (nI 0), .int (nI (ng v 12 99)), .int (nI 0)]) (rest := []) ⟨hx, hb, hml, hown, hts⟩ (c_L_loses l hfl g cy x a tr s0 s1 pa H.size bd q σ Hh n K fl tx ln (nI 0) (nI 0) (nI (ng v 12 99)) (nI 0) hI ) (vx_cwSW 5 hts (hl_in wd5_20 wd5_14 wd5_18 wd5_19) rfl rfl rfl (by decide +kernel) ⟨Nat.le_of_ble_eq_true rfl, Nat.le_of_ble_eq_true rfl⟩) (ps2 (ws := [] ++ fQ cy x a tr s0 s1 pa q σ n fl tx ln) hK hP hD hS hA hX hY _ nd_suffix at_suffix) rfl rfl hl.1 rfl (lv_room (Nat.le_of_ble_eq_true rfl)) dL_refuses_292 ⟨by show _ ≤ 100; omega, by show _ ≤ 600; omega⟩) hP hD hS hA (fun _ => fQ_ad) (fun q H locs hI hP hD hS => ?_)
            have h9 : fLose σ (nI 0) (nI 0) (nI (ng v 12 99)) (nI 0) = 1 := (fLose_1 (by omega) (by omega))
            have h8 : ¬ fLose σ (nI 0) (nI 0) (nI (ng v 12 99)) (nI 0) = 0 := by rw [h9]; decide
            simp only [if_neg h8] at hI hP hD
            have hP : va_P g vwCl (fQ cy x a tr s0 s1 pa q σ n fl tx ln) H := hP
            have hD : va_D A (fQ cy x a tr s0 s1 pa q σ n fl tx ln) := hD
            refine ti (show an (fLose σ (nI 0) (nI 0) (nI (ng v 12 99)) (nI 0)) (nI (σ 0)) = (-9999001) from (by rw [an_k h9 (by decide)]; rfl)) ?_
            show W _ _ _ _ _ _ _ _ _ _ _ _ _ _ _ (F0 mX 295 ls [.int (-9999001)])
            refine lv_ldc hx hb hown (hts _ wd6_0) dL_refuses_295 ?_
            refine lv_icmp_ne (tgt := 895) hx hb dL_refuses_297 (by decide) (fun c_297 => absurd rfl c_297) (fun _ => ?_)
            refine lv_aload_n hx hb dL_refuses_300 rfl (lv_at hl 7 rfl) ?_
            refine jn_i (pcj := 319) (ls := ls) (st := [.ref (x 0)]) (fun v9 => v9 = (nI (zg v 0 256 9))) ?_ (fun jn319 => ?_)
            · intro v9 hv9
              subst hv9
              refine lv_iconst (v := (nI 1)) hx hb dL_refuses_319 (by decide) ?_
              refine lv_iconst (v := (nI 0)) hx hb dL_refuses_320 (by decide) ?_
              refine lv_iconst (v := (nI 5)) hx hb dL_refuses_321 (by decide) ?_
              refine wr_callS (pre := []) (wc := fQ cy x a tr s0 s1 pa q σ n fl tx ln) (vx_runSW (hh := [(0, 9, 10, 13), (0, 9, 15, 16), (0, 9, 20, 19)]) (As := [.ref (x 0), .int (nI (zg v 0 256 9)), .int (nI 1), .int (nI 0), .int (nI 5)]) (rest := []) ⟨hx, hb, hml, hown, hts⟩ (c_L_loses l hfl g cy x a tr s0 s1 pa H.size bd q σ Hh n K fl tx ln (nI (zg v 0 256 9)) (nI 1) (nI 0) (nI 5) hI ) (vx_cwSW 5 hts (hl_in wd5_20 wd5_14 wd5_18 wd5_19) rfl rfl rfl (by decide +kernel) ⟨Nat.le_of_ble_eq_true rfl, Nat.le_of_ble_eq_true rfl⟩) (ps2 (ws := [] ++ fQ cy x a tr s0 s1 pa q σ n fl tx ln) hK hP hD hS hA hX hY _ nd_suffix at_suffix) rfl rfl hl.1 rfl (lv_room (Nat.le_of_ble_eq_true rfl)) dL_refuses_322 ⟨by show _ ≤ 100; omega, by show _ ≤ 600; omega⟩) hP hD hS hA (fun _ => fQ_ad) (fun q H locs hI hP hD hS => ?_)
              have h9 : fLose σ (nI (zg v 0 256 9)) (nI 1) (nI 0) (nI 5) = 2 := (fLose_2a (by omega) (by omega))
              have h8 : ¬ fLose σ (nI (zg v 0 256 9)) (nI 1) (nI 0) (nI 5) = 0 := by rw [h9]; decide
              simp only [if_neg h8] at hI hP hD
              have hP : va_P g vwCl (fQ cy x a tr s0 s1 pa q σ n fl tx ln) H := hP
              have hD : va_D A (fQ cy x a tr s0 s1 pa q σ n fl tx ln) := hD
              refine ti (show an (fLose σ (nI (zg v 0 256 9)) (nI 1) (nI 0) (nI 5)) (nI (σ 0)) = (-9999002) from (by rw [an_k h9 (by decide)]; rfl)) ?_
              show W _ _ _ _ _ _ _ _ _ _ _ _ _ _ _ (F0 mX 325 ls [.int (-9999002)])
              refine lv_ldc hx hb hown (hts _ wd6_1) dL_refuses_325 ?_
              refine lv_icmp_ne (tgt := 895) hx hb dL_refuses_327 (by decide) (fun c_327 => absurd rfl c_327) (fun _ => ?_)
              refine lv_aload_n hx hb dL_refuses_330 rfl (lv_at hl 7 rfl) ?_
              refine lv_iconst (v := (nI 5)) hx hb dL_refuses_331 (by decide) ?_
              refine jn_i (pcj := 348) (ls := ls) (st := [.int (nI 5), .ref (x 0)]) (fun v9 => v9 = (nI (zg v 0 4 9))) ?_ (fun jn348 => ?_)
              · intro v9 hv9
                subst hv9
                refine lv_iconst (v := (nI 0)) hx hb dL_refuses_348 (by decide) ?_
                refine lv_iconst (v := (nI 5)) hx hb dL_refuses_349 (by decide) ?_
                refine wr_callS (pre := []) (wc := fQ cy x a tr s0 s1 pa q σ n fl tx ln) (vx_runSW (hh := [(0, 9, 10, 13), (0, 9, 15, 16), (0, 9, 20, 19)]) (As := [.ref (x 0), .int (nI 5), .int (nI (zg v 0 4 9)), .int (nI 0), .int (nI 5)]) (rest := []) ⟨hx, hb, hml, hown, hts⟩ (c_L_loses l hfl g cy x a tr s0 s1 pa H.size bd q σ Hh n K fl tx ln (nI 5) (nI (zg v 0 4 9)) (nI 0) (nI 5) hI ) (vx_cwSW 5 hts (hl_in wd5_20 wd5_14 wd5_18 wd5_19) rfl rfl rfl (by decide +kernel) ⟨Nat.le_of_ble_eq_true rfl, Nat.le_of_ble_eq_true rfl⟩) (ps2 (ws := [] ++ fQ cy x a tr s0 s1 pa q σ n fl tx ln) hK hP hD hS hA hX hY _ nd_suffix at_suffix) rfl rfl hl.1 rfl (lv_room (Nat.le_of_ble_eq_true rfl)) dL_refuses_350 ⟨by show _ ≤ 100; omega, by show _ ≤ 600; omega⟩) hP hD hS hA (fun _ => fQ_ad) (fun q H locs hI hP hD hS => ?_)
                have h9 : fLose σ (nI 5) (nI (zg v 0 4 9)) (nI 0) (nI 5) = 2 := (fLose_2b (by omega) (by omega))
                have h8 : ¬ fLose σ (nI 5) (nI (zg v 0 4 9)) (nI 0) (nI 5) = 0 := by rw [h9]; decide
                simp only [if_neg h8] at hI hP hD
                have hP : va_P g vwCl (fQ cy x a tr s0 s1 pa q σ n fl tx ln) H := hP
                have hD : va_D A (fQ cy x a tr s0 s1 pa q σ n fl tx ln) := hD
                refine ti (show an (fLose σ (nI 5) (nI (zg v 0 4 9)) (nI 0) (nI 5)) (nI (σ 0)) = (-9999002) from (by rw [an_k h9 (by decide)]; rfl)) ?_
                show W _ _ _ _ _ _ _ _ _ _ _ _ _ _ _ (F0 mX 353 ls [.int (-9999002)])
                refine lv_ldc hx hb hown (hts _ wd6_1) dL_refuses_353 ?_
                refine lv_icmp_ne (tgt := 895) hx hb dL_refuses_355 (by decide) (fun c_355 => absurd rfl c_355) (fun _ => ?_)
                refine lv_aload_n hx hb dL_refuses_358 rfl (lv_at hl 7 rfl) ?_
                refine lv_iconst (v := (nI 5)) hx hb dL_refuses_359 (by decide) ?_
                refine lv_iconst (v := (nI 1)) hx hb dL_refuses_360 (by decide) ?_
                refine lv_iconst (v := (nI 0)) hx hb dL_refuses_361 (by decide) ?_
                refine jn_i (pcj := 380) (ls := ls) (st := [.int (nI 0), .int (nI 1), .int (nI 5), .ref (x 0)]) (fun v9 => v9 = (nI (zg v 0 501 9))) ?_ (fun jn380 => ?_)
                · intro v9 hv9
                  subst hv9
                  refine wr_callS (pre := []) (wc := fQ cy x a tr s0 s1 pa q σ n fl tx ln) (vx_runSW (hh := [(0, 9, 10, 13), (0, 9, 15, 16), (0, 9, 20, 19)]) (As := [.ref (x 0), .int (nI 5), .int (nI 1), .int (nI 0), .int (nI (zg v 0 501 9))]) (rest := []) ⟨hx, hb, hml, hown, hts⟩ (c_L_loses l hfl g cy x a tr s0 s1 pa H.size bd q σ Hh n K fl tx ln (nI 5) (nI 1) (nI 0) (nI (zg v 0 501 9)) hI ) (vx_cwSW 5 hts (hl_in wd5_20 wd5_14 wd5_18 wd5_19) rfl rfl rfl (by decide +kernel) ⟨Nat.le_of_ble_eq_true rfl, Nat.le_of_ble_eq_true rfl⟩) (ps2 (ws := [] ++ fQ cy x a tr s0 s1 pa q σ n fl tx ln) hK hP hD hS hA hX hY _ nd_suffix at_suffix) rfl rfl hl.1 rfl (lv_room (Nat.le_of_ble_eq_true rfl)) dL_refuses_380 ⟨by show _ ≤ 100; omega, by show _ ≤ 600; omega⟩) hP hD hS hA (fun _ => fQ_ad) (fun q H locs hI hP hD hS => ?_)
                  have h9 : fLose σ (nI 5) (nI 1) (nI 0) (nI (zg v 0 501 9)) = 2 := (fLose_2c (by omega) (by omega))
                  have h8 : ¬ fLose σ (nI 5) (nI 1) (nI 0) (nI (zg v 0 501 9)) = 0 := by rw [h9]; decide
                  simp only [if_neg h8] at hI hP hD
                  have hP : va_P g vwCl (fQ cy x a tr s0 s1 pa q σ n fl tx ln) H := hP
                  have hD : va_D A (fQ cy x a tr s0 s1 pa q σ n fl tx ln) := hD
                  refine ti (show an (fLose σ (nI 5) (nI 1) (nI 0) (nI (zg v 0 501 9))) (nI (σ 0)) = (-9999002) from (by rw [an_k h9 (by decide)]; rfl)) ?_
                  show W _ _ _ _ _ _ _ _ _ _ _ _ _ _ _ (F0 mX 383 ls [.int (-9999002)])
                  refine lv_ldc hx hb hown (hts _ wd6_1) dL_refuses_383 ?_
                  refine lv_icmp_ne (tgt := 895) hx hb dL_refuses_385 (by decide) (fun c_385 => absurd rfl c_385) (fun _ => ?_)
                  refine lv_aload_n hx hb dL_refuses_388 rfl (lv_at hl 7 rfl) ?_
                  refine lv_iload hx hb dL_refuses_389 (lv_at hl 1 rfl) ?_
                  refine lv_iconst (v := (nI 0)) hx hb dL_refuses_391 (by decide) ?_
                  refine lv_sipush (v := (nI 999)) hx hb dL_refuses_392 (by decide) ?_
                  refine lv_iconst (v := (nI 0)) hx hb dL_refuses_395 (by decide) ?_
                  refine lv_iconst (v := (nI 1)) hx hb dL_refuses_396 (by decide) ?_
                  refine ti (show (nI 1) = (bI true) from rfl) ?_
                  refine wr_callS (pre := []) (wc := fQ cy x a tr s0 s1 pa q σ n fl tx ln) (vx_runSW (hh := [(0, 11, 12, 13), (0, 11, 17, 16), (0, 11, 22, 19)]) (As := [.ref (x 0), .int (nI (ng v 8 99)), .int (nI 0), .int (nI 999), .int (nI 0), .int (bI true)]) (rest := []) ⟨hx, hb, hml, hown, hts⟩ (c_L_sights l hfl g cy x a tr s0 s1 pa H.size bd q σ Hh n K fl tx ln (nI (ng v 8 99)) (nI 0) (nI 999) (nI 0) true hI ) (vx_cwSW 6 hts (hl_in wd25_15 wd5_14 wd25_13 wd25_14) rfl rfl rfl (by decide +kernel) ⟨Nat.le_of_ble_eq_true rfl, Nat.le_of_ble_eq_true rfl⟩) (ps2 (ws := [] ++ fQ cy x a tr s0 s1 pa q σ n fl tx ln) hK hP hD hS hA hX hY _ nd_suffix at_suffix) rfl rfl hl.1 rfl (lv_room (Nat.le_of_ble_eq_true rfl)) dL_refuses_397 ⟨by show _ ≤ 100; omega, by show _ ≤ 600; omega⟩) hP hD hS hA (fun _ => fQ_ad) (fun q H locs hI hP hD hS => ?_)
                  have h9 : fTell σ (nI (ng v 8 99)) (nI 0) (nI 999) (nI 0) = 1 := (fTell_1a (by omega) (by omega))
                  have h8 : ¬ fTell σ (nI (ng v 8 99)) (nI 0) (nI 999) (nI 0) = 0 := by rw [h9]; decide
                  simp only [if_neg h8] at hI hP hD
                  have hP : va_P g vwCl (fQ cy x a tr s0 s1 pa q σ n fl tx ln) H := hP
                  have hD : va_D A (fQ cy x a tr s0 s1 pa q σ n fl tx ln) := hD
                  refine ti (show an (fTell σ (nI (ng v 8 99)) (nI 0) (nI 999) (nI 0)) (nI (sightA σ (nI (ng v 8 99)) (nI 0) (nI 999) (nI 0))) = (-9999001) from (by rw [an_k h9 (by decide)]; rfl)) ?_
                  show W _ _ _ _ _ _ _ _ _ _ _ _ _ _ _ (F0 mX 400 ls [.int (-9999001)])
                  refine lv_ldc hx hb hown (hts _ wd6_0) dL_refuses_400 ?_
                  refine lv_icmp_ne (tgt := 895) hx hb dL_refuses_402 (by decide) (fun c_402 => absurd rfl c_402) (fun _ => ?_)
                  refine lv_aload_n hx hb dL_refuses_405 rfl (lv_at hl 7 rfl) ?_
                  refine lv_iconst (v := (nI 0)) hx hb dL_refuses_406 (by decide) ?_
                  refine lv_iload hx hb dL_refuses_407 (lv_at hl 2 rfl) ?_
                  refine lv_sipush (v := (nI 999)) hx hb dL_refuses_409 (by decide) ?_
                  refine lv_iconst (v := (nI 0)) hx hb dL_refuses_412 (by decide) ?_
                  refine lv_iconst (v := (nI 1)) hx hb dL_refuses_413 (by decide) ?_
                  refine ti (show (nI 1) = (bI true) from rfl) ?_
                  refine wr_callS (pre := []) (wc := fQ cy x a tr s0 s1 pa q σ n fl tx ln) (vx_runSW (hh := [(0, 11, 12, 13), (0, 11, 17, 16), (0, 11, 22, 19)]) (As := [.ref (x 0), .int (nI 0), .int (nI (ng v 12 99)), .int (nI 999), .int (nI 0), .int (bI true)]) (rest := []) ⟨hx, hb, hml, hown, hts⟩ (c_L_sights l hfl g cy x a tr s0 s1 pa H.size bd q σ Hh n K fl tx ln (nI 0) (nI (ng v 12 99)) (nI 999) (nI 0) true hI ) (vx_cwSW 6 hts (hl_in wd25_15 wd5_14 wd25_13 wd25_14) rfl rfl rfl (by decide +kernel) ⟨Nat.le_of_ble_eq_true rfl, Nat.le_of_ble_eq_true rfl⟩) (ps2 (ws := [] ++ fQ cy x a tr s0 s1 pa q σ n fl tx ln) hK hP hD hS hA hX hY _ nd_suffix at_suffix) rfl rfl hl.1 rfl (lv_room (Nat.le_of_ble_eq_true rfl)) dL_refuses_414 ⟨by show _ ≤ 100; omega, by show _ ≤ 600; omega⟩) hP hD hS hA (fun _ => fQ_ad) (fun q H locs hI hP hD hS => ?_)
                  have h9 : fTell σ (nI 0) (nI (ng v 12 99)) (nI 999) (nI 0) = 1 := (fTell_1b (by omega) (by omega))
                  have h8 : ¬ fTell σ (nI 0) (nI (ng v 12 99)) (nI 999) (nI 0) = 0 := by rw [h9]; decide
                  simp only [if_neg h8] at hI hP hD
                  have hP : va_P g vwCl (fQ cy x a tr s0 s1 pa q σ n fl tx ln) H := hP
                  have hD : va_D A (fQ cy x a tr s0 s1 pa q σ n fl tx ln) := hD
                  refine ti (show an (fTell σ (nI 0) (nI (ng v 12 99)) (nI 999) (nI 0)) (nI (sightA σ (nI 0) (nI (ng v 12 99)) (nI 999) (nI 0))) = (-9999001) from (by rw [an_k h9 (by decide)]; rfl)) ?_
                  show W _ _ _ _ _ _ _ _ _ _ _ _ _ _ _ (F0 mX 417 ls [.int (-9999001)])
                  refine lv_ldc hx hb hown (hts _ wd6_0) dL_refuses_417 ?_
                  refine lv_icmp_ne (tgt := 895) hx hb dL_refuses_419 (by decide) (fun c_419 => absurd rfl c_419) (fun _ => ?_)
                  refine lv_aload_n hx hb dL_refuses_422 rfl (lv_at hl 7 rfl) ?_
                  refine lv_iconst (v := (nI 0)) hx hb dL_refuses_423 (by decide) ?_
                  refine lv_iconst (v := (nI 0)) hx hb dL_refuses_424 (by decide) ?_
                  refine jn_i (pcj := 443) (ls := ls) (st := [.int (nI 0), .int (nI 0), .ref (x 0)]) (fun v9 => v9 = (nI (zg v NN 256 9))) ?_ (fun jn443 => ?_)
                  · intro v9 hv9
                    subst hv9
                    refine lv_iconst (v := (nI 0)) hx hb dL_refuses_443 (by decide) ?_
                    refine lv_iconst (v := (nI 0)) hx hb dL_refuses_444 (by decide) ?_
                    refine ti (show (nI 0) = (bI false) from rfl) ?_
                    refine wr_callS (pre := []) (wc := fQ cy x a tr s0 s1 pa q σ n fl tx ln) (vx_runSW (hh := [(0, 11, 12, 13), (0, 11, 17, 16), (0, 11, 22, 19)]) (As := [.ref (x 0), .int (nI 0), .int (nI 0), .int (nI (zg v NN 256 9)), .int (nI 0), .int (bI false)]) (rest := []) ⟨hx, hb, hml, hown, hts⟩ (c_L_sights l hfl g cy x a tr s0 s1 pa H.size bd q σ Hh n K fl tx ln (nI 0) (nI 0) (nI (zg v NN 256 9)) (nI 0) false hI ) (vx_cwSW 6 hts (hl_in wd25_15 wd5_14 wd25_13 wd25_14) rfl rfl rfl (by decide +kernel) ⟨Nat.le_of_ble_eq_true rfl, Nat.le_of_ble_eq_true rfl⟩) (ps2 (ws := [] ++ fQ cy x a tr s0 s1 pa q σ n fl tx ln) hK hP hD hS hA hX hY _ nd_suffix at_suffix) rfl rfl hl.1 rfl (lv_room (Nat.le_of_ble_eq_true rfl)) dL_refuses_445 ⟨by show _ ≤ 100; omega, by show _ ≤ 600; omega⟩) hP hD hS hA (fun _ => fQ_ad) (fun q H locs hI hP hD hS => ?_)
                    have h9 : fTell σ (nI 0) (nI 0) (nI (zg v NN 256 9)) (nI 0) = 2 := (fTell_2a (by omega) (by omega))
                    have h8 : ¬ fTell σ (nI 0) (nI 0) (nI (zg v NN 256 9)) (nI 0) = 0 := by rw [h9]; decide
                    simp only [if_neg h8] at hI hP hD
                    have hP : va_P g vwCl (fQ cy x a tr s0 s1 pa q σ n fl tx ln) H := hP
                    have hD : va_D A (fQ cy x a tr s0 s1 pa q σ n fl tx ln) := hD
                    refine ti (show an (fTell σ (nI 0) (nI 0) (nI (zg v NN 256 9)) (nI 0)) (nI (sightA σ (nI 0) (nI 0) (nI (zg v NN 256 9)) (nI 0))) = (-9999002) from (by rw [an_k h9 (by decide)]; rfl)) ?_
                    show W _ _ _ _ _ _ _ _ _ _ _ _ _ _ _ (F0 mX 448 ls [.int (-9999002)])
                    refine lv_ldc hx hb hown (hts _ wd6_1) dL_refuses_448 ?_
                    refine lv_icmp_ne (tgt := 895) hx hb dL_refuses_450 (by decide) (fun c_450 => absurd rfl c_450) (fun _ => ?_)
                    refine lv_aload_n hx hb dL_refuses_453 rfl (lv_at hl 7 rfl) ?_
                    refine lv_iconst (v := (nI 0)) hx hb dL_refuses_454 (by decide) ?_
                    refine lv_iconst (v := (nI 0)) hx hb dL_refuses_455 (by decide) ?_
                    refine lv_iconst (v := (nI 5)) hx hb dL_refuses_456 (by decide) ?_
                    refine jn_i (pcj := 474) (ls := ls) (st := [.int (nI 5), .int (nI 0), .int (nI 0), .ref (x 0)]) (fun v9 => v9 = (nI (zg v NN 100 9))) ?_ (fun jn474 => ?_)
                    · intro v9 hv9
                      subst hv9
                      refine lv_iconst (v := (nI 0)) hx hb dL_refuses_474 (by decide) ?_
                      refine ti (show (nI 0) = (bI false) from rfl) ?_
                      refine wr_callS (pre := []) (wc := fQ cy x a tr s0 s1 pa q σ n fl tx ln) (vx_runSW (hh := [(0, 11, 12, 13), (0, 11, 17, 16), (0, 11, 22, 19)]) (As := [.ref (x 0), .int (nI 0), .int (nI 0), .int (nI 5), .int (nI (zg v NN 100 9)), .int (bI false)]) (rest := []) ⟨hx, hb, hml, hown, hts⟩ (c_L_sights l hfl g cy x a tr s0 s1 pa H.size bd q σ Hh n K fl tx ln (nI 0) (nI 0) (nI 5) (nI (zg v NN 100 9)) false hI ) (vx_cwSW 6 hts (hl_in wd25_15 wd5_14 wd25_13 wd25_14) rfl rfl rfl (by decide +kernel) ⟨Nat.le_of_ble_eq_true rfl, Nat.le_of_ble_eq_true rfl⟩) (ps2 (ws := [] ++ fQ cy x a tr s0 s1 pa q σ n fl tx ln) hK hP hD hS hA hX hY _ nd_suffix at_suffix) rfl rfl hl.1 rfl (lv_room (Nat.le_of_ble_eq_true rfl)) dL_refuses_475 ⟨by show _ ≤ 100; omega, by show _ ≤ 600; omega⟩) hP hD hS hA (fun _ => fQ_ad) (fun q H locs hI hP hD hS => ?_)
                      have h9 : fTell σ (nI 0) (nI 0) (nI 5) (nI (zg v NN 100 9)) = 2 := (fTell_2b (by omega) (by omega))
                      have h8 : ¬ fTell σ (nI 0) (nI 0) (nI 5) (nI (zg v NN 100 9)) = 0 := by rw [h9]; decide
                      simp only [if_neg h8] at hI hP hD
                      have hP : va_P g vwCl (fQ cy x a tr s0 s1 pa q σ n fl tx ln) H := hP
                      have hD : va_D A (fQ cy x a tr s0 s1 pa q σ n fl tx ln) := hD
                      refine ti (show an (fTell σ (nI 0) (nI 0) (nI 5) (nI (zg v NN 100 9))) (nI (sightA σ (nI 0) (nI 0) (nI 5) (nI (zg v NN 100 9)))) = (-9999002) from (by rw [an_k h9 (by decide)]; rfl)) ?_
                      show W _ _ _ _ _ _ _ _ _ _ _ _ _ _ _ (F0 mX 478 ls [.int (-9999002)])
                      refine lv_ldc hx hb hown (hts _ wd6_1) dL_refuses_478 ?_
                      refine lv_icmp_ne (tgt := 895) hx hb dL_refuses_480 (by decide) (fun c_480 => absurd rfl c_480) (fun _ => ?_)
                      refine lv_aload_n hx hb dL_refuses_483 rfl (lv_at hl 7 rfl) ?_
                      refine lv_bipush (v := (nI 7)) hx hb dL_refuses_484 (by decide) ?_
                      refine lv_iload hx hb dL_refuses_486 (lv_at hl 4 rfl) ?_
                      refine lv_iconst (v := (nI 0)) hx hb dL_refuses_488 (by decide) ?_
                      refine lv_iconst (v := (nI 0)) hx hb dL_refuses_489 (by decide) ?_
                      refine wr_callS (pre := []) (wc := fQ cy x a tr s0 s1 pa q σ n fl tx ln) (va_runS (As := [.ref (x 0), .int (nI 7), .int (nI (ng v (σ 0) 99)), .int (nI 0), .int (nI 0)]) (rest := []) ⟨hx, hb, hml, hown, hts⟩ (c_L_call_7 l hfl g cy x a tr s0 s1 pa H.size bd q σ Hh n K fl tx ln (nI (ng v (σ 0) 99)) (nI 0) (nI 0) hI ) ⟨(cB 5 hts wd9_11 wd5_14 wd9_9 rfl rfl (by decide +kernel) ⟨Nat.le_of_ble_eq_true rfl, Nat.le_of_ble_eq_true rfl⟩), hts _ wd9_10⟩ (ps2 (ws := [] ++ fQ cy x a tr s0 s1 pa q σ n fl tx ln) hK hP hD hS hA hX hY _ nd_suffix at_suffix) rfl rfl hl.1 rfl (lv_room (Nat.le_of_ble_eq_true rfl)) dL_refuses_490 ⟨by show _ ≤ 100; omega, by show _ ≤ 600; omega⟩) hP hD hS hA (fun _ => fQ_ad) (fun q H locs hI hP hD hS => ?_)
                      have h9 : fFind σ (nI (ng v (σ 0) 99)) (nI 0) (nI 0) = 1 := ((fFind_in (by decide) (by decide)).trans (fAsk_1 hn0 (by omega) (by omega)))
                      have h8 : ¬ fFind σ (nI (ng v (σ 0) 99)) (nI 0) (nI 0) = 0 := by rw [h9]; decide
                      simp only [if_neg h8] at hI hP hD
                      have hP : va_P g vwCl (fQ cy x a tr s0 s1 pa q σ n fl tx ln) H := hP
                      have hD : va_D A (fQ cy x a tr s0 s1 pa q σ n fl tx ln) := hD
                      refine ti (show an (fFind σ (nI (ng v (σ 0) 99)) (nI 0) (nI 0)) (nI (findA σ (nI (ng v (σ 0) 99)) (nI 0) (nI 0))) = (-9999001) from (by rw [an_k h9 (by decide)]; rfl)) ?_
                      show W _ _ _ _ _ _ _ _ _ _ _ _ _ _ _ (F0 mX 493 ls [.int (-9999001)])
                      refine lv_ldc hx hb hown (hts _ wd6_0) dL_refuses_493 ?_
                      refine lv_icmp_ne (tgt := 895) hx hb dL_refuses_495 (by decide) (fun c_495 => absurd rfl c_495) (fun _ => ?_)
                      refine lv_aload_n hx hb dL_refuses_498 rfl (lv_at hl 7 rfl) ?_
                      refine lv_bipush (v := (nI 7)) hx hb dL_refuses_499 (by decide) ?_
                      refine lv_iconst (v := (nI 0)) hx hb dL_refuses_501 (by decide) ?_
                      refine lv_iload hx hb dL_refuses_502 (lv_at hl 1 rfl) ?_
                      refine lv_iconst (v := (nI 0)) hx hb dL_refuses_504 (by decide) ?_
                      refine wr_callS (pre := []) (wc := fQ cy x a tr s0 s1 pa q σ n fl tx ln) (va_runS (As := [.ref (x 0), .int (nI 7), .int (nI 0), .int (nI (ng v 8 99)), .int (nI 0)]) (rest := []) ⟨hx, hb, hml, hown, hts⟩ (c_L_call_7 l hfl g cy x a tr s0 s1 pa H.size bd q σ Hh n K fl tx ln (nI 0) (nI (ng v 8 99)) (nI 0) hI ) ⟨(cB 5 hts wd9_11 wd5_14 wd9_9 rfl rfl (by decide +kernel) ⟨Nat.le_of_ble_eq_true rfl, Nat.le_of_ble_eq_true rfl⟩), hts _ wd9_10⟩ (ps2 (ws := [] ++ fQ cy x a tr s0 s1 pa q σ n fl tx ln) hK hP hD hS hA hX hY _ nd_suffix at_suffix) rfl rfl hl.1 rfl (lv_room (Nat.le_of_ble_eq_true rfl)) dL_refuses_505 ⟨by show _ ≤ 100; omega, by show _ ≤ 600; omega⟩) hP hD hS hA (fun _ => fQ_ad) (fun q H locs hI hP hD hS => ?_)
                      have h9 : fFind σ (nI 0) (nI (ng v 8 99)) (nI 0) = 1 := (fFind_1b (by omega) (by omega))
                      have h8 : ¬ fFind σ (nI 0) (nI (ng v 8 99)) (nI 0) = 0 := by rw [h9]; decide
                      simp only [if_neg h8] at hI hP hD
                      have hP : va_P g vwCl (fQ cy x a tr s0 s1 pa q σ n fl tx ln) H := hP
                      have hD : va_D A (fQ cy x a tr s0 s1 pa q σ n fl tx ln) := hD
                      refine ti (show an (fFind σ (nI 0) (nI (ng v 8 99)) (nI 0)) (nI (findA σ (nI 0) (nI (ng v 8 99)) (nI 0))) = (-9999001) from (by rw [an_k h9 (by decide)]; rfl)) ?_
                      show W _ _ _ _ _ _ _ _ _ _ _ _ _ _ _ (F0 mX 508 ls [.int (-9999001)])
                      refine lv_ldc hx hb hown (hts _ wd6_0) dL_refuses_508 ?_
                      refine lv_icmp_ne (tgt := 895) hx hb dL_refuses_510 (by decide) (fun c_510 => absurd rfl c_510) (fun _ => ?_)
                      refine lv_aload_n hx hb dL_refuses_513 rfl (lv_at hl 7 rfl) ?_
                      refine lv_bipush (v := (nI 7)) hx hb dL_refuses_514 (by decide) ?_
                      refine lv_iconst (v := (nI 0)) hx hb dL_refuses_516 (by decide) ?_
                      refine lv_iconst (v := (nI 0)) hx hb dL_refuses_517 (by decide) ?_
                      refine lv_iload hx hb dL_refuses_518 (lv_at hl 2 rfl) ?_
                      refine wr_callS (pre := []) (wc := fQ cy x a tr s0 s1 pa q σ n fl tx ln) (va_runS (As := [.ref (x 0), .int (nI 7), .int (nI 0), .int (nI 0), .int (nI (ng v 12 99))]) (rest := []) ⟨hx, hb, hml, hown, hts⟩ (c_L_call_7 l hfl g cy x a tr s0 s1 pa H.size bd q σ Hh n K fl tx ln (nI 0) (nI 0) (nI (ng v 12 99)) hI ) ⟨(cB 5 hts wd9_11 wd5_14 wd9_9 rfl rfl (by decide +kernel) ⟨Nat.le_of_ble_eq_true rfl, Nat.le_of_ble_eq_true rfl⟩), hts _ wd9_10⟩ (ps2 (ws := [] ++ fQ cy x a tr s0 s1 pa q σ n fl tx ln) hK hP hD hS hA hX hY _ nd_suffix at_suffix) rfl rfl hl.1 rfl (lv_room (Nat.le_of_ble_eq_true rfl)) dL_refuses_520 ⟨by show _ ≤ 100; omega, by show _ ≤ 600; omega⟩) hP hD hS hA (fun _ => fQ_ad) (fun q H locs hI hP hD hS => ?_)
                      have h9 : fFind σ (nI 0) (nI 0) (nI (ng v 12 99)) = 1 := (fFind_1c (by omega) (by omega))
                      have h8 : ¬ fFind σ (nI 0) (nI 0) (nI (ng v 12 99)) = 0 := by rw [h9]; decide
                      simp only [if_neg h8] at hI hP hD
                      have hP : va_P g vwCl (fQ cy x a tr s0 s1 pa q σ n fl tx ln) H := hP
                      have hD : va_D A (fQ cy x a tr s0 s1 pa q σ n fl tx ln) := hD
                      refine ti (show an (fFind σ (nI 0) (nI 0) (nI (ng v 12 99))) (nI (findA σ (nI 0) (nI 0) (nI (ng v 12 99)))) = (-9999001) from (by rw [an_k h9 (by decide)]; rfl)) ?_
                      show W _ _ _ _ _ _ _ _ _ _ _ _ _ _ _ (F0 mX 523 ls [.int (-9999001)])
                      refine lv_ldc hx hb hown (hts _ wd6_0) dL_refuses_523 ?_
                      refine lv_icmp_ne (tgt := 895) hx hb dL_refuses_525 (by decide) (fun c_525 => absurd rfl c_525) (fun _ => ?_)
                      refine lv_aload_n hx hb dL_refuses_528 rfl (lv_at hl 7 rfl) ?_
                      refine lv_iload hx hb dL_refuses_529 (lv_at hl 2 rfl) ?_
                      refine lv_iconst (v := (nI 0)) hx hb dL_refuses_531 (by decide) ?_
                      refine lv_iconst (v := (nI 1)) hx hb dL_refuses_532 (by decide) ?_
                      refine ti (show (nI 1) = (bI true) from rfl) ?_
                      refine wr_callS (pre := []) (wc := fQ cy x a tr s0 s1 pa q σ n fl tx ln) (vx_runSW (hh := [(0, 7, 8, 13), (0, 7, 13, 16)]) (As := [.ref (x 0), .int (nI (ng v 12 99)), .int (nI 0), .int (bI true)]) (rest := []) ⟨hx, hb, hml, hown, hts⟩ (c_L_closes l hfl g cy x a tr s0 s1 pa H.size bd q σ Hh n K fl tx ln (nI (ng v 12 99)) (nI 0) true hI ) (vx_cwSW 4 hts (hl_in wd26_0 wd5_14 wd25_22 wd25_23) rfl rfl rfl (by decide +kernel) ⟨Nat.le_of_ble_eq_true rfl, Nat.le_of_ble_eq_true rfl⟩) (ps2 (ws := [] ++ fQ cy x a tr s0 s1 pa q σ n fl tx ln) hK hP hD hS hA hX hY _ nd_suffix at_suffix) rfl rfl hl.1 rfl (lv_room (Nat.le_of_ble_eq_true rfl)) dL_refuses_533 ⟨by show _ ≤ 100; omega, by show _ ≤ 600; omega⟩) hP hD hS hA (fun _ => fQ_ad) (fun q H locs hI hP hD hS => ?_)
                      have h9 : fClose (nI (ng v 12 99)) (nI 0) = 1 := (fClose_1a (by omega) (by omega))
                      have h8 : ¬ fClose (nI (ng v 12 99)) (nI 0) = 0 := by rw [h9]; decide
                      simp only [if_neg h8] at hI hP hD
                      have hP : va_P g vwCl (fQ cy x a tr s0 s1 pa q σ n fl tx ln) H := hP
                      have hD : va_D A (fQ cy x a tr s0 s1 pa q σ n fl tx ln) := hD
                      refine ti (show an (fClose (nI (ng v 12 99)) (nI 0)) (nI (closeA σ (nI (ng v 12 99)) (nI 0) true)) = (-9999001) from (by rw [an_k h9 (by decide)]; rfl)) ?_
                      show W _ _ _ _ _ _ _ _ _ _ _ _ _ _ _ (F0 mX 536 ls [.int (-9999001)])
                      refine lv_ldc hx hb hown (hts _ wd6_0) dL_refuses_536 ?_
                      refine lv_icmp_ne (tgt := 895) hx hb dL_refuses_538 (by decide) (fun c_538 => absurd rfl c_538) (fun _ => ?_)
                      refine lv_aload_n hx hb dL_refuses_541 rfl (lv_at hl 7 rfl) ?_
                      refine lv_iconst (v := (nI 0)) hx hb dL_refuses_542 (by decide) ?_
                      refine lv_iload hx hb dL_refuses_543 (lv_at hl 2 rfl) ?_
                      refine lv_iconst (v := (nI 0)) hx hb dL_refuses_545 (by decide) ?_
                      refine ti (show (nI 0) = (bI false) from rfl) ?_
                      refine wr_callS (pre := []) (wc := fQ cy x a tr s0 s1 pa q σ n fl tx ln) (vx_runSW (hh := [(0, 7, 8, 13), (0, 7, 13, 16)]) (As := [.ref (x 0), .int (nI 0), .int (nI (ng v 12 99)), .int (bI false)]) (rest := []) ⟨hx, hb, hml, hown, hts⟩ (c_L_closes l hfl g cy x a tr s0 s1 pa H.size bd q σ Hh n K fl tx ln (nI 0) (nI (ng v 12 99)) false hI ) (vx_cwSW 4 hts (hl_in wd26_0 wd5_14 wd25_22 wd25_23) rfl rfl rfl (by decide +kernel) ⟨Nat.le_of_ble_eq_true rfl, Nat.le_of_ble_eq_true rfl⟩) (ps2 (ws := [] ++ fQ cy x a tr s0 s1 pa q σ n fl tx ln) hK hP hD hS hA hX hY _ nd_suffix at_suffix) rfl rfl hl.1 rfl (lv_room (Nat.le_of_ble_eq_true rfl)) dL_refuses_546 ⟨by show _ ≤ 100; omega, by show _ ≤ 600; omega⟩) hP hD hS hA (fun _ => fQ_ad) (fun q H locs hI hP hD hS => ?_)
                      have h9 : fClose (nI 0) (nI (ng v 12 99)) = 1 := (fClose_1b (by omega) (by omega))
                      have h8 : ¬ fClose (nI 0) (nI (ng v 12 99)) = 0 := by rw [h9]; decide
                      simp only [if_neg h8] at hI hP hD
                      have hP : va_P g vwCl (fQ cy x a tr s0 s1 pa q σ n fl tx ln) H := hP
                      have hD : va_D A (fQ cy x a tr s0 s1 pa q σ n fl tx ln) := hD
                      refine ti (show an (fClose (nI 0) (nI (ng v 12 99))) (nI (closeA σ (nI 0) (nI (ng v 12 99)) false)) = (-9999001) from (by rw [an_k h9 (by decide)]; rfl)) ?_
                      show W _ _ _ _ _ _ _ _ _ _ _ _ _ _ _ (F0 mX 549 ls [.int (-9999001)])
                      refine lv_ldc hx hb hown (hts _ wd6_0) dL_refuses_549 ?_
                      refine lv_icmp_ne (tgt := 895) hx hb dL_refuses_551 (by decide) (fun c_551 => absurd rfl c_551) (fun _ => ?_)
                      refine lv_aload_n hx hb dL_refuses_554 rfl (lv_at hl 7 rfl) ?_
                      refine lv_iload hx hb dL_refuses_555 (lv_at hl 0 rfl) ?_
                      refine lv_iload hx hb dL_refuses_557 (lv_at hl 0 rfl) ?_
                      refine lv_iconst (v := (nI 1)) hx hb dL_refuses_559 (by decide) ?_
                      refine ti (show (nI 1) = (bI true) from rfl) ?_
                      refine wr_callS (pre := []) (wc := fQ cy x a tr s0 s1 pa q σ n fl tx ln) (vx_runSW (hh := [(0, 7, 8, 13), (0, 7, 13, 16)]) (As := [.ref (x 0), .int (nI (v % 12)), .int (nI (v % 12)), .int (bI true)]) (rest := []) ⟨hx, hb, hml, hown, hts⟩ (c_L_closes l hfl g cy x a tr s0 s1 pa H.size bd q σ Hh n K fl tx ln (nI (v % 12)) (nI (v % 12)) true hI ) (vx_cwSW 4 hts (hl_in wd26_0 wd5_14 wd25_22 wd25_23) rfl rfl rfl (by decide +kernel) ⟨Nat.le_of_ble_eq_true rfl, Nat.le_of_ble_eq_true rfl⟩) (ps2 (ws := [] ++ fQ cy x a tr s0 s1 pa q σ n fl tx ln) hK hP hD hS hA hX hY _ nd_suffix at_suffix) rfl rfl hl.1 rfl (lv_room (Nat.le_of_ble_eq_true rfl)) dL_refuses_560 ⟨by show _ ≤ 100; omega, by show _ ≤ 600; omega⟩) hP hD hS hA (fun _ => fQ_ad) (fun q H locs hI hP hD hS => ?_)
                      have h9 : fClose (nI (v % 12)) (nI (v % 12)) = 2 := (by rw [fClose_in (by omega) (by omega), if_pos (sbt_cc _ (by omega))])
                      have h8 : ¬ fClose (nI (v % 12)) (nI (v % 12)) = 0 := by rw [h9]; decide
                      simp only [if_neg h8] at hI hP hD
                      have hP : va_P g vwCl (fQ cy x a tr s0 s1 pa q σ n fl tx ln) H := hP
                      have hD : va_D A (fQ cy x a tr s0 s1 pa q σ n fl tx ln) := hD
                      refine ti (show an (fClose (nI (v % 12)) (nI (v % 12))) (nI (closeA σ (nI (v % 12)) (nI (v % 12)) true)) = (-9999002) from (by rw [an_k h9 (by decide)]; rfl)) ?_
                      show W _ _ _ _ _ _ _ _ _ _ _ _ _ _ _ (F0 mX 563 ls [.int (-9999002)])
                      refine lv_ldc hx hb hown (hts _ wd6_1) dL_refuses_563 ?_
                      refine lv_icmp_ne (tgt := 895) hx hb dL_refuses_565 (by decide) (fun c_565 => absurd rfl c_565) (fun _ => ?_)
                      refine lv_aload_n hx hb dL_refuses_568 rfl (lv_at hl 7 rfl) ?_
                      refine lv_iconst (v := (nI 3)) hx hb dL_refuses_569 (by decide) ?_
                      refine lv_iconst (v := (nI 4)) hx hb dL_refuses_570 (by decide) ?_
                      refine lv_iconst (v := (nI 1)) hx hb dL_refuses_571 (by decide) ?_
                      refine ti (show (nI 1) = (bI true) from rfl) ?_
                      refine wr_callS (pre := []) (wc := fQ cy x a tr s0 s1 pa q σ n fl tx ln) (vx_runSW (hh := [(0, 7, 8, 13), (0, 7, 13, 16)]) (As := [.ref (x 0), .int (nI 3), .int (nI 4), .int (bI true)]) (rest := []) ⟨hx, hb, hml, hown, hts⟩ (c_L_closes l hfl g cy x a tr s0 s1 pa H.size bd q σ Hh n K fl tx ln (nI 3) (nI 4) true hI ) (vx_cwSW 4 hts (hl_in wd26_0 wd5_14 wd25_22 wd25_23) rfl rfl rfl (by decide +kernel) ⟨Nat.le_of_ble_eq_true rfl, Nat.le_of_ble_eq_true rfl⟩) (ps2 (ws := [] ++ fQ cy x a tr s0 s1 pa q σ n fl tx ln) hK hP hD hS hA hX hY _ nd_suffix at_suffix) rfl rfl hl.1 rfl (lv_room (Nat.le_of_ble_eq_true rfl)) dL_refuses_572 ⟨by show _ ≤ 100; omega, by show _ ≤ 600; omega⟩) hP hD hS hA (fun _ => fQ_ad) (fun q H locs hI hP hD hS => ?_)
                      have h9 : fClose (nI 3) (nI 4) = 2 := (by rw [fClose_in (by decide) (by decide)]; decide +kernel)
                      have h8 : ¬ fClose (nI 3) (nI 4) = 0 := by rw [h9]; decide
                      simp only [if_neg h8] at hI hP hD
                      have hP : va_P g vwCl (fQ cy x a tr s0 s1 pa q σ n fl tx ln) H := hP
                      have hD : va_D A (fQ cy x a tr s0 s1 pa q σ n fl tx ln) := hD
                      refine ti (show an (fClose (nI 3) (nI 4)) (nI (closeA σ (nI 3) (nI 4) true)) = (-9999002) from (by rw [an_k h9 (by decide)]; rfl)) ?_
                      show W _ _ _ _ _ _ _ _ _ _ _ _ _ _ _ (F0 mX 575 ls [.int (-9999002)])
                      refine lv_ldc hx hb hown (hts _ wd6_1) dL_refuses_575 ?_
                      refine lv_icmp_ne (tgt := 895) hx hb dL_refuses_577 (by decide) (fun c_577 => absurd rfl c_577) (fun _ => ?_)
                      refine lv_aload_n hx hb dL_refuses_580 rfl (lv_at hl 7 rfl) ?_
                      refine lv_iconst (v := (nI 0)) hx hb dL_refuses_581 (by decide) ?_
                      refine lv_iconst (v := (nI 5)) hx hb dL_refuses_582 (by decide) ?_
                      refine lv_iload_n hx hb dL_refuses_583 rfl (lv_at hl 8 rfl) ?_
                      refine lv_bipush (v := (nI 7)) hx hb dL_refuses_584 (by decide) ?_
                      refine lv_irem hx hb dL_refuses_586 (nI_ne0 (by omega) (by omega)) ?_
                      refine ti (pk_rem (a := v) (d := 7) (by omega) (by omega) (by omega)) ?_
                      refine lv_iadd hx hb dL_refuses_587 ?_
                      refine ti (nI_add 5 (v % 7)) ?_
                      refine lv_iconst (v := (nI 0)) hx hb dL_refuses_588 (by decide) ?_
                      refine ti (show (nI 0) = (bI false) from rfl) ?_
                      refine wr_callS (pre := []) (wc := fQ cy x a tr s0 s1 pa q σ n fl tx ln) (vx_runSW (hh := [(0, 7, 8, 13), (0, 7, 13, 16)]) (As := [.ref (x 0), .int (nI 0), .int (nI (5 + (v % 7))), .int (bI false)]) (rest := []) ⟨hx, hb, hml, hown, hts⟩ (c_L_closes l hfl g cy x a tr s0 s1 pa H.size bd q σ Hh n K fl tx ln (nI 0) (nI (5 + (v % 7))) false hI ) (vx_cwSW 4 hts (hl_in wd26_0 wd5_14 wd25_22 wd25_23) rfl rfl rfl (by decide +kernel) ⟨Nat.le_of_ble_eq_true rfl, Nat.le_of_ble_eq_true rfl⟩) (ps2 (ws := [] ++ fQ cy x a tr s0 s1 pa q σ n fl tx ln) hK hP hD hS hA hX hY _ nd_suffix at_suffix) rfl rfl hl.1 rfl (lv_room (Nat.le_of_ble_eq_true rfl)) dL_refuses_589 ⟨by show _ ≤ 100; omega, by show _ ≤ 600; omega⟩) hP hD hS hA (fun _ => fQ_ad) (fun q H locs hI hP hD hS => ?_)
                      have h9 : fClose (nI 0) (nI (5 + (v % 7))) = 2 := (by rw [fClose_in (by decide) (by omega), if_pos (sbt_0k _ (by omega))])
                      have h8 : ¬ fClose (nI 0) (nI (5 + (v % 7))) = 0 := by rw [h9]; decide
                      simp only [if_neg h8] at hI hP hD
                      have hP : va_P g vwCl (fQ cy x a tr s0 s1 pa q σ n fl tx ln) H := hP
                      have hD : va_D A (fQ cy x a tr s0 s1 pa q σ n fl tx ln) := hD
                      refine ti (show an (fClose (nI 0) (nI (5 + (v % 7)))) (nI (closeA σ (nI 0) (nI (5 + (v % 7))) false)) = (-9999002) from (by rw [an_k h9 (by decide)]; rfl)) ?_
                      show W _ _ _ _ _ _ _ _ _ _ _ _ _ _ _ (F0 mX 592 ls [.int (-9999002)])
                      refine lv_ldc hx hb hown (hts _ wd6_1) dL_refuses_592 ?_
                      refine lv_icmp_ne (tgt := 895) hx hb dL_refuses_594 (by decide) (fun c_594 => absurd rfl c_594) (fun _ => ?_)
                      refine lv_aload_n hx hb dL_refuses_597 rfl (lv_at hl 7 rfl) ?_
                      refine lv_bipush (v := (nI 8)) hx hb dL_refuses_598 (by decide) ?_
                      refine jn_i (pcj := 617) (ls := ls) (st := [.int (nI 8), .ref (x 0)]) (fun v9 => v9 = (nI (zg v 0 100 9))) ?_ (fun jn617 => ?_)
                      · intro v9 hv9
                        subst hv9
                        refine lv_iconst (v := (nI 0)) hx hb dL_refuses_617 (by decide) ?_
                        refine lv_iconst (v := (nI 0)) hx hb dL_refuses_618 (by decide) ?_
                        refine wr_callS (pre := []) (wc := fQ cy x a tr s0 s1 pa q σ n fl tx ln) (va_runS (As := [.ref (x 0), .int (nI 8), .int (nI (zg v 0 100 9)), .int (nI 0), .int (nI 0)]) (rest := []) ⟨hx, hb, hml, hown, hts⟩ (c_L_call_8 l hfl g cy x a tr s0 s1 pa H.size bd q σ Hh n K fl tx ln (nI (zg v 0 100 9)) (nI 0) (nI 0) hI (by omega)) ⟨(cB 5 hts wd9_11 wd5_14 wd9_9 rfl rfl (by decide +kernel) ⟨Nat.le_of_ble_eq_true rfl, Nat.le_of_ble_eq_true rfl⟩), hts _ wd9_10⟩ (ps2 (ws := [] ++ fQ cy x a tr s0 s1 pa q σ n fl tx ln) hK hP hD hS hA hX hY _ nd_suffix at_suffix) rfl rfl hl.1 rfl (lv_room (Nat.le_of_ble_eq_true rfl)) dL_refuses_619 ⟨by show _ ≤ 100; omega, by show _ ≤ 600; omega⟩) hP hD hS hA (fun _ => fQ_ad) (fun q H locs hI hP hD hS => ?_)
                        have h9 : fPass (nI (zg v 0 100 9)) = 2 := (fPass_2 (by omega) (by omega))
                        have h8 : ¬ fPass (nI (zg v 0 100 9)) = 0 := by rw [h9]; decide
                        simp only [if_neg h8] at hI hP hD
                        have hP : va_P g vwCl (fQ cy x a tr s0 s1 pa q σ n fl tx ln) H := hP
                        have hD : va_D A (fQ cy x a tr s0 s1 pa q σ n fl tx ln) := hD
                        refine ti (show an (fPass (nI (zg v 0 100 9))) (nI (hoursA σ (nI (zg v 0 100 9)))) = (-9999002) from (by rw [an_k h9 (by decide)]; rfl)) ?_
                        show W _ _ _ _ _ _ _ _ _ _ _ _ _ _ _ (F0 mX 622 ls [.int (-9999002)])
                        refine lv_ldc hx hb hown (hts _ wd6_1) dL_refuses_622 ?_
                        refine lv_icmp_ne (tgt := 895) hx hb dL_refuses_624 (by decide) (fun c_624 => absurd rfl c_624) (fun _ => ?_)
                        refine lv_aload_n hx hb dL_refuses_627 rfl (lv_at hl 7 rfl) ?_
                        refine lv_bipush (v := (nI 9)) hx hb dL_refuses_628 (by decide) ?_
                        refine lv_iconst (v := (nI 0)) hx hb dL_refuses_630 (by decide) ?_
                        refine jn_i (pcj := 648) (ls := ls) (st := [.int (nI 0), .int (nI 9), .ref (x 0)]) (fun v9 => v9 = (nI (zg v NN 51 9))) ?_ (fun jn648 => ?_)
                        · intro v9 hv9
                          subst hv9
                          refine lv_iconst (v := (nI 0)) hx hb dL_refuses_648 (by decide) ?_
                          refine wr_callS (pre := []) (wc := fQ cy x a tr s0 s1 pa q σ n fl tx ln) (va_runS (As := [.ref (x 0), .int (nI 9), .int (nI 0), .int (nI (zg v NN 51 9)), .int (nI 0)]) (rest := []) ⟨hx, hb, hml, hown, hts⟩ (c_L_call_9 l hfl g cy x a tr s0 s1 pa H.size bd q σ Hh n K fl tx ln (nI 0) (nI (zg v NN 51 9)) (nI 0) hI ) ⟨(cB 5 hts wd9_11 wd5_14 wd9_9 rfl rfl (by decide +kernel) ⟨Nat.le_of_ble_eq_true rfl, Nat.le_of_ble_eq_true rfl⟩), hts _ wd9_10⟩ (ps2 (ws := [] ++ fQ cy x a tr s0 s1 pa q σ n fl tx ln) hK hP hD hS hA hX hY _ nd_suffix at_suffix) rfl rfl hl.1 rfl (lv_room (Nat.le_of_ble_eq_true rfl)) dL_refuses_649 ⟨by show _ ≤ 100; omega, by show _ ≤ 600; omega⟩) hP hD hS hA (fun _ => fQ_ad) (fun q H locs hI hP hD hS => ?_)
                          have h9 : fSet (nI 0) (nI (zg v NN 51 9)) = 2 := (fSet_2a (by omega) (by omega))
                          have h8 : ¬ fSet (nI 0) (nI (zg v NN 51 9)) = 0 := by rw [h9]; decide
                          simp only [if_neg h8] at hI hP hD
                          have hP : va_P g vwCl (fQ cy x a tr s0 s1 pa q σ n fl tx ln) H := hP
                          have hD : va_D A (fQ cy x a tr s0 s1 pa q σ n fl tx ln) := hD
                          refine ti (show an (fSet (nI 0) (nI (zg v NN 51 9))) (nI (setA σ (nI 0) (nI (zg v NN 51 9)))) = (-9999002) from (by rw [an_k h9 (by decide)]; rfl)) ?_
                          show W _ _ _ _ _ _ _ _ _ _ _ _ _ _ _ (F0 mX 652 ls [.int (-9999002)])
                          refine lv_ldc hx hb hown (hts _ wd6_1) dL_refuses_652 ?_
                          refine lv_icmp_ne (tgt := 895) hx hb dL_refuses_654 (by decide) (fun c_654 => absurd rfl c_654) (fun _ => ?_)
                          refine lv_aload_n hx hb dL_refuses_657 rfl (lv_at hl 7 rfl) ?_
                          refine lv_bipush (v := (nI 9)) hx hb dL_refuses_658 (by decide) ?_
                          refine lv_iconst (v := (nI 1)) hx hb dL_refuses_660 (by decide) ?_
                          refine jn_i (pcj := 678) (ls := ls) (st := [.int (nI 1), .int (nI 9), .ref (x 0)]) (fun v9 => v9 = (nI (zg v NN 9 9))) ?_ (fun jn678 => ?_)
                          · intro v9 hv9
                            subst hv9
                            refine lv_iconst (v := (nI 0)) hx hb dL_refuses_678 (by decide) ?_
                            refine wr_callS (pre := []) (wc := fQ cy x a tr s0 s1 pa q σ n fl tx ln) (va_runS (As := [.ref (x 0), .int (nI 9), .int (nI 1), .int (nI (zg v NN 9 9)), .int (nI 0)]) (rest := []) ⟨hx, hb, hml, hown, hts⟩ (c_L_call_9 l hfl g cy x a tr s0 s1 pa H.size bd q σ Hh n K fl tx ln (nI 1) (nI (zg v NN 9 9)) (nI 0) hI ) ⟨(cB 5 hts wd9_11 wd5_14 wd9_9 rfl rfl (by decide +kernel) ⟨Nat.le_of_ble_eq_true rfl, Nat.le_of_ble_eq_true rfl⟩), hts _ wd9_10⟩ (ps2 (ws := [] ++ fQ cy x a tr s0 s1 pa q σ n fl tx ln) hK hP hD hS hA hX hY _ nd_suffix at_suffix) rfl rfl hl.1 rfl (lv_room (Nat.le_of_ble_eq_true rfl)) dL_refuses_679 ⟨by show _ ≤ 100; omega, by show _ ≤ 600; omega⟩) hP hD hS hA (fun _ => fQ_ad) (fun q H locs hI hP hD hS => ?_)
                            have h9 : fSet (nI 1) (nI (zg v NN 9 9)) = 2 := (fSet_2b (by omega) (by omega))
                            have h8 : ¬ fSet (nI 1) (nI (zg v NN 9 9)) = 0 := by rw [h9]; decide
                            simp only [if_neg h8] at hI hP hD
                            have hP : va_P g vwCl (fQ cy x a tr s0 s1 pa q σ n fl tx ln) H := hP
                            have hD : va_D A (fQ cy x a tr s0 s1 pa q σ n fl tx ln) := hD
                            refine ti (show an (fSet (nI 1) (nI (zg v NN 9 9))) (nI (setA σ (nI 1) (nI (zg v NN 9 9)))) = (-9999002) from (by rw [an_k h9 (by decide)]; rfl)) ?_
                            show W _ _ _ _ _ _ _ _ _ _ _ _ _ _ _ (F0 mX 682 ls [.int (-9999002)])
                            refine lv_ldc hx hb hown (hts _ wd6_1) dL_refuses_682 ?_
                            refine lv_icmp_ne (tgt := 895) hx hb dL_refuses_684 (by decide) (fun c_684 => absurd rfl c_684) (fun _ => ?_)
                            refine lv_aload_n hx hb dL_refuses_687 rfl (lv_at hl 7 rfl) ?_
                            refine lv_bipush (v := (nI 9)) hx hb dL_refuses_688 (by decide) ?_
                            refine lv_iconst (v := (nI 2)) hx hb dL_refuses_690 (by decide) ?_
                            refine lv_iload_n hx hb dL_refuses_691 rfl (lv_at hl 8 rfl) ?_
                            refine lv_bipush (v := (nI 9)) hx hb dL_refuses_692 (by decide) ?_
                            refine lv_irem hx hb dL_refuses_694 (nI_ne0 (by omega) (by omega)) ?_
                            refine ti (pk_rem (a := v) (d := 9) (by omega) (by omega) (by omega)) ?_
                            refine lv_iadd hx hb dL_refuses_695 ?_
                            refine ti (nI_add 2 (v % 9)) ?_
                            refine lv_iconst (v := (nI 5)) hx hb dL_refuses_696 (by decide) ?_
                            refine lv_iconst (v := (nI 0)) hx hb dL_refuses_697 (by decide) ?_
                            refine wr_callS (pre := []) (wc := fQ cy x a tr s0 s1 pa q σ n fl tx ln) (va_runS (As := [.ref (x 0), .int (nI 9), .int (nI (2 + (v % 9))), .int (nI 5), .int (nI 0)]) (rest := []) ⟨hx, hb, hml, hown, hts⟩ (c_L_call_9 l hfl g cy x a tr s0 s1 pa H.size bd q σ Hh n K fl tx ln (nI (2 + (v % 9))) (nI 5) (nI 0) hI ) ⟨(cB 5 hts wd9_11 wd5_14 wd9_9 rfl rfl (by decide +kernel) ⟨Nat.le_of_ble_eq_true rfl, Nat.le_of_ble_eq_true rfl⟩), hts _ wd9_10⟩ (ps2 (ws := [] ++ fQ cy x a tr s0 s1 pa q σ n fl tx ln) hK hP hD hS hA hX hY _ nd_suffix at_suffix) rfl rfl hl.1 rfl (lv_room (Nat.le_of_ble_eq_true rfl)) dL_refuses_698 ⟨by show _ ≤ 100; omega, by show _ ≤ 600; omega⟩) hP hD hS hA (fun _ => fQ_ad) (fun q H locs hI hP hD hS => ?_)
                            have h9 : fSet (nI (2 + (v % 9))) (nI 5) = 2 := (fSet_2c (by omega) (by omega))
                            have h8 : ¬ fSet (nI (2 + (v % 9))) (nI 5) = 0 := by rw [h9]; decide
                            simp only [if_neg h8] at hI hP hD
                            have hP : va_P g vwCl (fQ cy x a tr s0 s1 pa q σ n fl tx ln) H := hP
                            have hD : va_D A (fQ cy x a tr s0 s1 pa q σ n fl tx ln) := hD
                            refine ti (show an (fSet (nI (2 + (v % 9))) (nI 5)) (nI (setA σ (nI (2 + (v % 9))) (nI 5))) = (-9999002) from (by rw [an_k h9 (by decide)]; rfl)) ?_
                            show W _ _ _ _ _ _ _ _ _ _ _ _ _ _ _ (F0 mX 701 ls [.int (-9999002)])
                            refine lv_ldc hx hb hown (hts _ wd6_1) dL_refuses_701 ?_
                            refine lv_icmp_ne (tgt := 895) hx hb dL_refuses_703 (by decide) (fun c_703 => absurd rfl c_703) (fun _ => ?_)
                            refine lv_aload_n hx hb dL_refuses_706 rfl (lv_at hl 7 rfl) ?_
                            refine lv_bipush (v := (nI 11)) hx hb dL_refuses_707 (by decide) ?_
                            refine lv_iload hx hb dL_refuses_709 (lv_at hl 4 rfl) ?_
                            refine lv_iconst (v := (nI 0)) hx hb dL_refuses_711 (by decide) ?_
                            refine lv_iconst (v := (nI 0)) hx hb dL_refuses_712 (by decide) ?_
                            refine wr_callS (pre := []) (wc := fQ cy x a tr s0 s1 pa q σ n fl tx ln) (va_runS (As := [.ref (x 0), .int (nI 11), .int (nI (ng v (σ 0) 99)), .int (nI 0), .int (nI 0)]) (rest := []) ⟨hx, hb, hml, hown, hts⟩ (c_L_call_11 l hfl g cy x a tr s0 s1 pa H.size bd q σ Hh n K fl tx ln (nI (ng v (σ 0) 99)) (nI 0) (nI 0) hI ) ⟨(cB 5 hts wd9_11 wd5_14 wd9_9 rfl rfl (by decide +kernel) ⟨Nat.le_of_ble_eq_true rfl, Nat.le_of_ble_eq_true rfl⟩), hts _ wd9_10⟩ (ps2 (ws := [] ++ fQ cy x a tr s0 s1 pa q σ n fl tx ln) hK hP hD hS hA hX hY _ nd_suffix at_suffix) rfl rfl hl.1 rfl (lv_room (Nat.le_of_ble_eq_true rfl)) dL_refuses_713 ⟨by show _ ≤ 100; omega, by show _ ≤ 600; omega⟩) hP hD hS hA (fun _ => fQ_ad) (fun q H locs hI hP hD hS => ?_)
                            have h9 : fAsk σ (nI (ng v (σ 0) 99)) = 1 := (fAsk_1 hn0 (by omega) (by omega))
                            have hP : va_P g vwCl (fQ cy x a tr s0 s1 pa q σ n fl tx ln) H := hP
                            have hD : va_D A (fQ cy x a tr s0 s1 pa q σ n fl tx ln) := hD
                            refine ti (show an (fAsk σ (nI (ng v (σ 0) 99))) (nI (mk (cbe σ (nI (ng v (σ 0) 99)).toNatClampNeg) 12)) = (-9999001) from (by rw [an_k h9 (by decide)]; rfl)) ?_
                            show W _ _ _ _ _ _ _ _ _ _ _ _ _ _ _ (F0 mX 716 ls [.int (-9999001)])
                            refine lv_ldc hx hb hown (hts _ wd6_0) dL_refuses_716 ?_
                            refine lv_icmp_ne (tgt := 895) hx hb dL_refuses_718 (by decide) (fun c_718 => absurd rfl c_718) (fun _ => ?_)
                            refine lv_aload_n hx hb dL_refuses_721 rfl (lv_at hl 7 rfl) ?_
                            refine lv_bipush (v := (nI 12)) hx hb dL_refuses_722 (by decide) ?_
                            refine jn_i (pcj := 742) (ls := ls) (st := [.int (nI 12), .ref (x 0)]) (fun v9 => v9 = (nI (zg v NN 256 9))) ?_ (fun jn742 => ?_)
                            · intro v9 hv9
                              subst hv9
                              refine lv_iconst (v := (nI 0)) hx hb dL_refuses_742 (by decide) ?_
                              refine lv_iconst (v := (nI 0)) hx hb dL_refuses_743 (by decide) ?_
                              refine wr_callS (pre := []) (wc := fQ cy x a tr s0 s1 pa q σ n fl tx ln) (va_runS (As := [.ref (x 0), .int (nI 12), .int (nI (zg v NN 256 9)), .int (nI 0), .int (nI 0)]) (rest := []) ⟨hx, hb, hml, hown, hts⟩ (c_L_call_12 l hfl g cy x a tr s0 s1 pa H.size bd q σ Hh n K fl tx ln (nI (zg v NN 256 9)) (nI 0) (nI 0) hI ) ⟨(cB 5 hts wd9_11 wd5_14 wd9_9 rfl rfl (by decide +kernel) ⟨Nat.le_of_ble_eq_true rfl, Nat.le_of_ble_eq_true rfl⟩), hts _ wd9_10⟩ (ps2 (ws := [] ++ fQ cy x a tr s0 s1 pa q σ n fl tx ln) hK hP hD hS hA hX hY _ nd_suffix at_suffix) rfl rfl hl.1 rfl (lv_room (Nat.le_of_ble_eq_true rfl)) dL_refuses_744 ⟨by show _ ≤ 100; omega, by show _ ≤ 600; omega⟩) hP hD hS hA (fun _ => fQ_ad) (fun q H locs hI hP hD hS => ?_)
                              have h9 : fMea (nI (zg v NN 256 9)) = 2 := (fMea_2 (by omega) (by omega))
                              have hP : va_P g vwCl (fQ cy x a tr s0 s1 pa q σ n fl tx ln) H := hP
                              have hD : va_D A (fQ cy x a tr s0 s1 pa q σ n fl tx ln) := hD
                              refine ti (show an (fMea (nI (zg v NN 256 9))) (nI (mea σ (nI (zg v NN 256 9)).toNatClampNeg (σ 2))) = (-9999002) from (by rw [an_k h9 (by decide)]; rfl)) ?_
                              show W _ _ _ _ _ _ _ _ _ _ _ _ _ _ _ (F0 mX 747 ls [.int (-9999002)])
                              refine lv_ldc hx hb hown (hts _ wd6_1) dL_refuses_747 ?_
                              refine lv_icmp_ne (tgt := 895) hx hb dL_refuses_749 (by decide) (fun c_749 => absurd rfl c_749) (fun _ => ?_)
                              refine lv_aload_n hx hb dL_refuses_752 rfl (lv_at hl 7 rfl) ?_
                              refine lv_iload hx hb dL_refuses_753 (lv_at hl 4 rfl) ?_
                              refine lv_iconst (v := (nI 0)) hx hb dL_refuses_755 (by decide) ?_
                              refine lv_iconst (v := (nI 0)) hx hb dL_refuses_756 (by decide) ?_
                              refine lv_iconst (v := (nI 0)) hx hb dL_refuses_757 (by decide) ?_
                              refine wr_callS (pre := []) (wc := fQ cy x a tr s0 s1 pa q σ n fl tx ln) (vx_runSW (hh := [(0, 9, 10, 13), (0, 9, 15, 19)]) (As := [.ref (x 0), .int (nI (ng v (σ 0) 99)), .int (nI 0), .int (nI 0), .int (nI 0)]) (rest := []) ⟨hx, hb, hml, hown, hts⟩ (c_L_ifs l hfl g cy x a tr s0 s1 pa H.size bd q σ Hh n K fl tx ln (nI (ng v (σ 0) 99)) (nI 0) (nI 0) (nI 0) hI ) (vx_cwSW 5 hts (hl_in wd26_13 wd5_14 wd26_11 wd26_12) rfl rfl rfl (by decide +kernel) ⟨Nat.le_of_ble_eq_true rfl, Nat.le_of_ble_eq_true rfl⟩) (ps2 (ws := [] ++ fQ cy x a tr s0 s1 pa q σ n fl tx ln) hK hP hD hS hA hX hY _ nd_suffix at_suffix) rfl rfl hl.1 rfl (lv_room (Nat.le_of_ble_eq_true rfl)) dL_refuses_758 ⟨by show _ ≤ 100; omega, by show _ ≤ 600; omega⟩) hP hD hS hA (fun _ => fQ_ad) (fun q H locs hI hP hD hS => ?_)
                              have h9 : fIff σ (nI (ng v (σ 0) 99)) (nI 0) (nI 0) (nI 0) = 1 := ((fIff_in (by decide)).trans ((fFind_in (by decide) (by decide)).trans (fAsk_1 hn0 (by omega) (by omega))))
                              have hP : va_P g vwCl (fQ cy x a tr s0 s1 pa q σ n fl tx ln) H := hP
                              have hD : va_D A (fQ cy x a tr s0 s1 pa q σ n fl tx ln) := hD
                              refine ti (show an (fIff σ (nI (ng v (σ 0) 99)) (nI 0) (nI 0) (nI 0)) (nI (shr σ (nI (ng v (σ 0) 99)).toNatClampNeg (nI 0).toNatClampNeg (nI 0).toNatClampNeg (nI 0).toNatClampNeg)) = (-9999001) from (by rw [an_k h9 (by decide)]; rfl)) ?_
                              show W _ _ _ _ _ _ _ _ _ _ _ _ _ _ _ (F0 mX 761 ls [.int (-9999001)])
                              refine lv_ldc hx hb hown (hts _ wd6_0) dL_refuses_761 ?_
                              refine lv_icmp_ne (tgt := 895) hx hb dL_refuses_763 (by decide) (fun c_763 => absurd rfl c_763) (fun _ => ?_)
                              refine lv_aload_n hx hb dL_refuses_766 rfl (lv_at hl 7 rfl) ?_
                              refine lv_iconst (v := (nI 0)) hx hb dL_refuses_767 (by decide) ?_
                              refine lv_iload hx hb dL_refuses_768 (lv_at hl 1 rfl) ?_
                              refine lv_iconst (v := (nI 0)) hx hb dL_refuses_770 (by decide) ?_
                              refine lv_iconst (v := (nI 0)) hx hb dL_refuses_771 (by decide) ?_
                              refine wr_callS (pre := []) (wc := fQ cy x a tr s0 s1 pa q σ n fl tx ln) (vx_runSW (hh := [(0, 9, 10, 13), (0, 9, 15, 19)]) (As := [.ref (x 0), .int (nI 0), .int (nI (ng v 8 99)), .int (nI 0), .int (nI 0)]) (rest := []) ⟨hx, hb, hml, hown, hts⟩ (c_L_ifs l hfl g cy x a tr s0 s1 pa H.size bd q σ Hh n K fl tx ln (nI 0) (nI (ng v 8 99)) (nI 0) (nI 0) hI ) (vx_cwSW 5 hts (hl_in wd26_13 wd5_14 wd26_11 wd26_12) rfl rfl rfl (by decide +kernel) ⟨Nat.le_of_ble_eq_true rfl, Nat.le_of_ble_eq_true rfl⟩) (ps2 (ws := [] ++ fQ cy x a tr s0 s1 pa q σ n fl tx ln) hK hP hD hS hA hX hY _ nd_suffix at_suffix) rfl rfl hl.1 rfl (lv_room (Nat.le_of_ble_eq_true rfl)) dL_refuses_772 ⟨by show _ ≤ 100; omega, by show _ ≤ 600; omega⟩) hP hD hS hA (fun _ => fQ_ad) (fun q H locs hI hP hD hS => ?_)
                              have h9 : fIff σ (nI 0) (nI (ng v 8 99)) (nI 0) (nI 0) = 1 := ((fIff_in (by decide)).trans (fFind_1b (by omega) (by omega)))
                              have hP : va_P g vwCl (fQ cy x a tr s0 s1 pa q σ n fl tx ln) H := hP
                              have hD : va_D A (fQ cy x a tr s0 s1 pa q σ n fl tx ln) := hD
                              refine ti (show an (fIff σ (nI 0) (nI (ng v 8 99)) (nI 0) (nI 0)) (nI (shr σ (nI 0).toNatClampNeg (nI (ng v 8 99)).toNatClampNeg (nI 0).toNatClampNeg (nI 0).toNatClampNeg)) = (-9999001) from (by rw [an_k h9 (by decide)]; rfl)) ?_
                              show W _ _ _ _ _ _ _ _ _ _ _ _ _ _ _ (F0 mX 775 ls [.int (-9999001)])
                              refine lv_ldc hx hb hown (hts _ wd6_0) dL_refuses_775 ?_
                              refine lv_icmp_ne (tgt := 895) hx hb dL_refuses_777 (by decide) (fun c_777 => absurd rfl c_777) (fun _ => ?_)
                              refine lv_aload_n hx hb dL_refuses_780 rfl (lv_at hl 7 rfl) ?_
                              refine lv_iconst (v := (nI 0)) hx hb dL_refuses_781 (by decide) ?_
                              refine lv_iconst (v := (nI 0)) hx hb dL_refuses_782 (by decide) ?_
                              refine lv_iload hx hb dL_refuses_783 (lv_at hl 2 rfl) ?_
                              refine lv_iconst (v := (nI 0)) hx hb dL_refuses_785 (by decide) ?_
                              refine wr_callS (pre := []) (wc := fQ cy x a tr s0 s1 pa q σ n fl tx ln) (vx_runSW (hh := [(0, 9, 10, 13), (0, 9, 15, 19)]) (As := [.ref (x 0), .int (nI 0), .int (nI 0), .int (nI (ng v 12 99)), .int (nI 0)]) (rest := []) ⟨hx, hb, hml, hown, hts⟩ (c_L_ifs l hfl g cy x a tr s0 s1 pa H.size bd q σ Hh n K fl tx ln (nI 0) (nI 0) (nI (ng v 12 99)) (nI 0) hI ) (vx_cwSW 5 hts (hl_in wd26_13 wd5_14 wd26_11 wd26_12) rfl rfl rfl (by decide +kernel) ⟨Nat.le_of_ble_eq_true rfl, Nat.le_of_ble_eq_true rfl⟩) (ps2 (ws := [] ++ fQ cy x a tr s0 s1 pa q σ n fl tx ln) hK hP hD hS hA hX hY _ nd_suffix at_suffix) rfl rfl hl.1 rfl (lv_room (Nat.le_of_ble_eq_true rfl)) dL_refuses_786 ⟨by show _ ≤ 100; omega, by show _ ≤ 600; omega⟩) hP hD hS hA (fun _ => fQ_ad) (fun q H locs hI hP hD hS => ?_)
                              have h9 : fIff σ (nI 0) (nI 0) (nI (ng v 12 99)) (nI 0) = 1 := ((fIff_in (by decide)).trans (fFind_1c (by omega) (by omega)))
                              have hP : va_P g vwCl (fQ cy x a tr s0 s1 pa q σ n fl tx ln) H := hP
                              have hD : va_D A (fQ cy x a tr s0 s1 pa q σ n fl tx ln) := hD
                              refine ti (show an (fIff σ (nI 0) (nI 0) (nI (ng v 12 99)) (nI 0)) (nI (shr σ (nI 0).toNatClampNeg (nI 0).toNatClampNeg (nI (ng v 12 99)).toNatClampNeg (nI 0).toNatClampNeg)) = (-9999001) from (by rw [an_k h9 (by decide)]; rfl)) ?_
                              show W _ _ _ _ _ _ _ _ _ _ _ _ _ _ _ (F0 mX 789 ls [.int (-9999001)])
                              refine lv_ldc hx hb hown (hts _ wd6_0) dL_refuses_789 ?_
                              refine lv_icmp_ne (tgt := 895) hx hb dL_refuses_791 (by decide) (fun c_791 => absurd rfl c_791) (fun _ => ?_)
                              refine lv_aload_n hx hb dL_refuses_794 rfl (lv_at hl 7 rfl) ?_
                              refine lv_iconst (v := (nI 0)) hx hb dL_refuses_795 (by decide) ?_
                              refine lv_iconst (v := (nI 0)) hx hb dL_refuses_796 (by decide) ?_
                              refine lv_iconst (v := (nI 0)) hx hb dL_refuses_797 (by decide) ?_
                              refine lv_iload hx hb dL_refuses_798 (lv_at hl 1 rfl) ?_
                              refine wr_callS (pre := []) (wc := fQ cy x a tr s0 s1 pa q σ n fl tx ln) (vx_runSW (hh := [(0, 9, 10, 13), (0, 9, 15, 19)]) (As := [.ref (x 0), .int (nI 0), .int (nI 0), .int (nI 0), .int (nI (ng v 8 99))]) (rest := []) ⟨hx, hb, hml, hown, hts⟩ (c_L_ifs l hfl g cy x a tr s0 s1 pa H.size bd q σ Hh n K fl tx ln (nI 0) (nI 0) (nI 0) (nI (ng v 8 99)) hI ) (vx_cwSW 5 hts (hl_in wd26_13 wd5_14 wd26_11 wd26_12) rfl rfl rfl (by decide +kernel) ⟨Nat.le_of_ble_eq_true rfl, Nat.le_of_ble_eq_true rfl⟩) (ps2 (ws := [] ++ fQ cy x a tr s0 s1 pa q σ n fl tx ln) hK hP hD hS hA hX hY _ nd_suffix at_suffix) rfl rfl hl.1 rfl (lv_room (Nat.le_of_ble_eq_true rfl)) dL_refuses_800 ⟨by show _ ≤ 100; omega, by show _ ≤ 600; omega⟩) hP hD hS hA (fun _ => fQ_ad) (fun q H locs hI hP hD hS => ?_)
                              have h9 : fIff σ (nI 0) (nI 0) (nI 0) (nI (ng v 8 99)) = 1 := (fIff_1d (by omega) (by omega))
                              have hP : va_P g vwCl (fQ cy x a tr s0 s1 pa q σ n fl tx ln) H := hP
                              have hD : va_D A (fQ cy x a tr s0 s1 pa q σ n fl tx ln) := hD
                              refine ti (show an (fIff σ (nI 0) (nI 0) (nI 0) (nI (ng v 8 99))) (nI (shr σ (nI 0).toNatClampNeg (nI 0).toNatClampNeg (nI 0).toNatClampNeg (nI (ng v 8 99)).toNatClampNeg)) = (-9999001) from (by rw [an_k h9 (by decide)]; rfl)) ?_
                              show W _ _ _ _ _ _ _ _ _ _ _ _ _ _ _ (F0 mX 803 ls [.int (-9999001)])
                              refine lv_ldc hx hb hown (hts _ wd6_0) dL_refuses_803 ?_
                              refine lv_icmp_ne (tgt := 895) hx hb dL_refuses_805 (by decide) (fun c_805 => absurd rfl c_805) (fun _ => ?_)
                              refine lv_aload_n hx hb dL_refuses_808 rfl (lv_at hl 7 rfl) ?_
                              refine lv_bipush (v := (nI 13)) hx hb dL_refuses_809 (by decide) ?_
                              refine lv_iconst (v := (nI 2)) hx hb dL_refuses_811 (by decide) ?_
                              refine lv_iload_n hx hb dL_refuses_812 rfl (lv_at hl 8 rfl) ?_
                              refine lv_bipush (v := (nI 50)) hx hb dL_refuses_813 (by decide) ?_
                              refine lv_irem hx hb dL_refuses_815 (nI_ne0 (by omega) (by omega)) ?_
                              refine ti (pk_rem (a := v) (d := 50) (by omega) (by omega) (by omega)) ?_
                              refine lv_iadd hx hb dL_refuses_816 ?_
                              refine ti (nI_add 2 (v % 50)) ?_
                              refine lv_iconst (v := (nI 0)) hx hb dL_refuses_817 (by decide) ?_
                              refine lv_iconst (v := (nI 0)) hx hb dL_refuses_818 (by decide) ?_
                              refine wr_callS (pre := []) (wc := fQ cy x a tr s0 s1 pa q σ n fl tx ln) (va_runS (As := [.ref (x 0), .int (nI 13), .int (nI (2 + (v % 50))), .int (nI 0), .int (nI 0)]) (rest := []) ⟨hx, hb, hml, hown, hts⟩ (c_L_call_13 l hfl g cy x a tr s0 s1 pa H.size bd q σ Hh n K fl tx ln (nI (2 + (v % 50))) (nI 0) (nI 0) hI ) ⟨(cB 5 hts wd9_11 wd5_14 wd9_9 rfl rfl (by decide +kernel) ⟨Nat.le_of_ble_eq_true rfl, Nat.le_of_ble_eq_true rfl⟩), hts _ wd9_10⟩ (ps2 (ws := [] ++ fQ cy x a tr s0 s1 pa q σ n fl tx ln) hK hP hD hS hA hX hY _ nd_suffix at_suffix) rfl rfl hl.1 rfl (lv_room (Nat.le_of_ble_eq_true rfl)) dL_refuses_819 ⟨by show _ ≤ 100; omega, by show _ ≤ 600; omega⟩) hP hD hS hA (fun _ => fQ_ad) (fun q H locs hI hP hD hS => ?_)
                              have h9 : fSlo (nI (2 + (v % 50))) = 1 := (fSlo_1 (by omega) (by omega))
                              have h8 : ¬ fSlo (nI (2 + (v % 50))) = 0 := by rw [h9]; decide
                              simp only [if_neg h8] at hI hP hD
                              have hP : va_P g vwCl (fQ cy x a tr s0 s1 pa q σ n fl tx ln) H := hP
                              have hD : va_D A (fQ cy x a tr s0 s1 pa q σ n fl tx ln) := hD
                              refine ti (show an (fSlo (nI (2 + (v % 50)))) (nI (σ 2)) = (-9999001) from (by rw [an_k h9 (by decide)]; rfl)) ?_
                              show W _ _ _ _ _ _ _ _ _ _ _ _ _ _ _ (F0 mX 822 ls [.int (-9999001)])
                              refine lv_ldc hx hb hown (hts _ wd6_0) dL_refuses_822 ?_
                              refine lv_icmp_ne (tgt := 895) hx hb dL_refuses_824 (by decide) (fun c_824 => absurd rfl c_824) (fun _ => ?_)
                              refine lv_aload_n hx hb dL_refuses_827 rfl (lv_at hl 7 rfl) ?_
                              refine lv_bipush (v := (nI 14)) hx hb dL_refuses_828 (by decide) ?_
                              refine lv_iconst (v := (nI NN)) hx hb dL_refuses_830 (by decide) ?_
                              refine lv_iload_n hx hb dL_refuses_831 rfl (lv_at hl 8 rfl) ?_
                              refine lv_bipush (v := (nI 9)) hx hb dL_refuses_832 (by decide) ?_
                              refine lv_irem hx hb dL_refuses_834 (nI_ne0 (by omega) (by omega)) ?_
                              refine ti (pk_rem (a := v) (d := 9) (by omega) (by omega) (by omega)) ?_
                              refine lv_isub hx hb dL_refuses_835 ?_
                              refine ti (pk_sub (a := NN) (b := (v % 9)) (by omega)) ?_
                              refine lv_iconst (v := (nI 0)) hx hb dL_refuses_836 (by decide) ?_
                              refine lv_iconst (v := (nI 0)) hx hb dL_refuses_837 (by decide) ?_
                              refine wr_callS (pre := []) (wc := fQ cy x a tr s0 s1 pa q σ n fl tx ln) (va_runS (As := [.ref (x 0), .int (nI 14), .int (nI (NN - (v % 9))), .int (nI 0), .int (nI 0)]) (rest := []) ⟨hx, hb, hml, hown, hts⟩ (c_L_call_14 l hfl g cy x a tr s0 s1 pa H.size bd q σ Hh n K fl tx ln (nI (NN - (v % 9))) (nI 0) (nI 0) hI ) ⟨(cB 5 hts wd9_11 wd5_14 wd9_9 rfl rfl (by decide +kernel) ⟨Nat.le_of_ble_eq_true rfl, Nat.le_of_ble_eq_true rfl⟩), hts _ wd9_10⟩ (ps2 (ws := [] ++ fQ cy x a tr s0 s1 pa q σ n fl tx ln) hK hP hD hS hA hX hY _ nd_suffix at_suffix) rfl rfl hl.1 rfl (lv_room (Nat.le_of_ble_eq_true rfl)) dL_refuses_838 ⟨by show _ ≤ 100; omega, by show _ ≤ 600; omega⟩) hP hD hS hA (fun _ => fQ_ad) (fun q H locs hI hP hD hS => ?_)
                              have h9 : fRes fl (nI (NN - (v % 9))) = 1 := (fRes_1 (by omega) (by omega))
                              have h8 : ¬ fRes fl (nI (NN - (v % 9))) = 0 := by rw [h9]; decide
                              simp only [if_neg h8] at hI hP hD
                              have hP : va_P g vwCl (fQ cy x a tr s0 s1 pa q σ n fl tx ln) H := hP
                              have hD : va_D A (fQ cy x a tr s0 s1 pa q σ n fl tx ln) := hD
                              refine ti (show an (fRes fl (nI (NN - (v % 9)))) (nI (K (nI (NN - (v % 9))).toNatClampNeg 2)) = (-9999001) from (by rw [an_k h9 (by decide)]; rfl)) ?_
                              show W _ _ _ _ _ _ _ _ _ _ _ _ _ _ _ (F0 mX 841 ls [.int (-9999001)])
                              refine lv_ldc hx hb hown (hts _ wd6_0) dL_refuses_841 ?_
                              refine lv_icmp_ne (tgt := 895) hx hb dL_refuses_843 (by decide) (fun c_843 => absurd rfl c_843) (fun _ => ?_)
                              refine lv_aload_n hx hb dL_refuses_846 rfl (lv_at hl 7 rfl) ?_
                              refine lv_iconst (v := (nI 0)) hx hb dL_refuses_847 (by decide) ?_
                              refine lv_lconst (v := 0) hx hb dL_refuses_848 rfl ?_
                              refine wr_callS (pre := []) (wc := fQ cy x a tr s0 s1 pa q σ n fl tx ln) (vx_runSW (hh := [(0, 6, 7, 16)]) (As := [.ref (x 0), .int (nI 0), .long (0 : Int64)]) (rest := []) ⟨hx, hb, hml, hown, hts⟩ (c_L_doScript l hfl g cy x a tr s0 s1 pa H.size bd q σ Hh n K fl tx ln (nI 0) (0 : Int64) hI (by omega)) (vx_cwSW 3 hts (hl_in wd27_0 wd5_14 wd26_22 wd26_23) rfl rfl rfl (by decide +kernel) ⟨Nat.le_of_ble_eq_true rfl, Nat.le_of_ble_eq_true rfl⟩) (ps2 (ws := [] ++ fQ cy x a tr s0 s1 pa q σ n fl tx ln) hK hP hD hS hA hX hY _ nd_suffix at_suffix) rfl rfl hl.1 rfl (lv_room (Nat.le_of_ble_eq_true rfl)) dL_refuses_849 ⟨by show _ ≤ 100; omega, by show _ ≤ 600; omega⟩) hP hD hS hA (fun _ => fQ_ad) (fun q H locs hI hP hD hS => ?_)
                              have h9 : fRun (nI 0) (0 : Int64) = 2 := (fRun_2a)
                              have hP : va_P g vwCl (fQ cy x a tr s0 s1 pa q σ n fl tx ln) H := hP
                              have hD : va_D A (fQ cy x a tr s0 s1 pa q σ n fl tx ln) := hD
                              refine ti (show an (fRun (nI 0) (0 : Int64)) (nI (rnI (0 : Int64) (nI 0).toNatClampNeg (nI 0).toNatClampNeg σ)) = (-9999002) from (by rw [an_k h9 (by decide)]; rfl)) ?_
                              show W _ _ _ _ _ _ _ _ _ _ _ _ _ _ _ (F0 mX 852 ls [.int (-9999002)])
                              refine lv_ldc hx hb hown (hts _ wd6_1) dL_refuses_852 ?_
                              refine lv_icmp_ne (tgt := 895) hx hb dL_refuses_854 (by decide) (fun c_854 => absurd rfl c_854) (fun _ => ?_)
                              refine lv_aload_n hx hb dL_refuses_857 rfl (lv_at hl 7 rfl) ?_
                              refine lv_iconst (v := (nI 1)) hx hb dL_refuses_858 (by decide) ?_
                              refine lv_ldc2 hx hb hown (hts _ wd26_10) dL_refuses_859 ?_
                              refine lv_iload_n hx hb dL_refuses_862 rfl (lv_at hl 8 rfl) ?_
                              refine lv_i2l (v := (nI v).toInt64) hx hb dL_refuses_863 rfl ?_
                              refine lv_ladd hx hb dL_refuses_864 ?_
                              refine wr_callS (pre := []) (wc := fQ cy x a tr s0 s1 pa q σ n fl tx ln) (vx_runSW (hh := [(0, 6, 7, 16)]) (As := [.ref (x 0), .int (nI 1), .long ((1000000 : Int64) + ((nI v).toInt64))]) (rest := []) ⟨hx, hb, hml, hown, hts⟩ (c_L_doScript l hfl g cy x a tr s0 s1 pa H.size bd q σ Hh n K fl tx ln (nI 1) ((1000000 : Int64) + ((nI v).toInt64)) hI (by omega)) (vx_cwSW 3 hts (hl_in wd27_0 wd5_14 wd26_22 wd26_23) rfl rfl rfl (by decide +kernel) ⟨Nat.le_of_ble_eq_true rfl, Nat.le_of_ble_eq_true rfl⟩) (ps2 (ws := [] ++ fQ cy x a tr s0 s1 pa q σ n fl tx ln) hK hP hD hS hA hX hY _ nd_suffix at_suffix) rfl rfl hl.1 rfl (lv_room (Nat.le_of_ble_eq_true rfl)) dL_refuses_865 ⟨by show _ ≤ 100; omega, by show _ ≤ 600; omega⟩) hP hD hS hA (fun _ => fQ_ad) (fun q H locs hI hP hD hS => ?_)
                              have h9 : fRun (nI 1) ((1000000 : Int64) + ((nI v).toInt64)) = 2 := (fRun_2b (by omega))
                              have hP : va_P g vwCl (fQ cy x a tr s0 s1 pa q σ n fl tx ln) H := hP
                              have hD : va_D A (fQ cy x a tr s0 s1 pa q σ n fl tx ln) := hD
                              refine ti (show an (fRun (nI 1) ((1000000 : Int64) + ((nI v).toInt64))) (nI (rnI ((1000000 : Int64) + ((nI v).toInt64)) (nI 1).toNatClampNeg (nI 1).toNatClampNeg σ)) = (-9999002) from (by rw [an_k h9 (by decide)]; rfl)) ?_
                              show W _ _ _ _ _ _ _ _ _ _ _ _ _ _ _ (F0 mX 868 ls [.int (-9999002)])
                              refine lv_ldc hx hb hown (hts _ wd6_1) dL_refuses_868 ?_
                              refine lv_icmp_ne (tgt := 895) hx hb dL_refuses_870 (by decide) (fun c_870 => absurd rfl c_870) (fun _ => ?_)
                              refine lv_aload_n hx hb dL_refuses_873 rfl (lv_at hl 7 rfl) ?_
                              refine lv_iload_n hx hb dL_refuses_874 rfl (lv_at hl 8 rfl) ?_
                              refine lv_i2l (v := (nI v).toInt64) hx hb dL_refuses_875 rfl ?_
                              refine lv_bipush (v := (nI 61)) hx hb dL_refuses_876 (by decide) ?_
                              refine lv_iload_n hx hb dL_refuses_878 rfl (lv_at hl 8 rfl) ?_
                              refine lv_bipush (v := (nI 9)) hx hb dL_refuses_879 (by decide) ?_
                              refine lv_irem hx hb dL_refuses_881 (nI_ne0 (by omega) (by omega)) ?_
                              refine ti (pk_rem (a := v) (d := 9) (by omega) (by omega) (by omega)) ?_
                              refine lv_iadd hx hb dL_refuses_882 ?_
                              refine ti (nI_add 61 (v % 9)) ?_
                              refine wr_callS (pre := []) (wc := fQ cy x a tr s0 s1 pa q σ n fl tx ln) (vx_runSW (hh := [(0, 6, 7, 16)]) (As := [.ref (x 0), .long ((nI v).toInt64), .int (nI (61 + (v % 9)))]) (rest := []) ⟨hx, hb, hml, hown, hts⟩ (c_L_doSimulate l hfl g cy x a tr s0 s1 pa H.size bd q σ Hh n K fl tx ln ((nI v).toInt64) (nI (61 + (v % 9))) hI (by omega)) (vx_cwSW 3 hts (hl_in wd28_0 wd5_14 wd27_22 wd27_23) rfl rfl rfl (by decide +kernel) ⟨Nat.le_of_ble_eq_true rfl, Nat.le_of_ble_eq_true rfl⟩) (ps2 (ws := [] ++ fQ cy x a tr s0 s1 pa q σ n fl tx ln) hK hP hD hS hA hX hY _ nd_suffix at_suffix) rfl rfl hl.1 rfl (lv_room (Nat.le_of_ble_eq_true rfl)) dL_refuses_883 ⟨by show _ ≤ 100; omega, by show _ ≤ 600; omega⟩) hP hD hS hA (fun _ => fQ_ad) (fun q H locs hI hP hD hS => ?_)
                              have h9 : fSim (nI (61 + (v % 9))) = 2 := (fSim_2 (by omega) (by omega))
                              have hP : va_P g vwCl (fQ cy x a tr s0 s1 pa q σ n fl tx ln) H := hP
                              have hD : va_D A (fQ cy x a tr s0 s1 pa q σ n fl tx ln) := hD
                              refine ti (show an (fSim (nI (61 + (v % 9)))) (simA σ (siS ((nI v).toInt64) σ (nI (61 + (v % 9))).toNatClampNeg)) = (-9999002) from (by rw [an_k h9 (by decide)]; rfl)) ?_
                              show W _ _ _ _ _ _ _ _ _ _ _ _ _ _ _ (F0 mX 886 ls [.int (-9999002)])
                              refine lv_ldc hx hb hown (hts _ wd6_1) dL_refuses_886 ?_
                              refine lv_icmp_ne (tgt := 895) hx hb dL_refuses_888 (by decide) (fun c_888 => absurd rfl c_888) (fun _ => ?_)
                              refine lv_iconst (v := (nI 1)) hx hb dL_refuses_891 (by decide) ?_
                              refine lv_goto (tgt := 896) hx hb dL_refuses_892 (by decide) ?_
                              refine lv_istore (lv' := [(9, .int (nI 1)), (8, .int (nI (v % 12))), (7, .int (nI (ng v 8 99))), (6, .int (nI (ng v 12 99))), (5, .int (nI (ng v (σ 1) 99))), (4, .int (nI (ng v (σ 0) 99))), (3, .int (nI (σ 1))), (2, .int (nI (σ 0))), (0, .ref (x 0)), (1, .int (nI v))]) hx hb dL_refuses_896 hl (by decide) rfl (fun ls hl => ?_)
                              refine lv_iload hx hb dL_refuses_898 (lv_at hl 0 rfl) ?_
                              refine lv_if_eq (tgt := 1022) hx hb dL_refuses_900 (by decide) (fun c9 => absurd c9 (by decide)) (fun _ => ?_)
                              refine lv_iload_n hx hb dL_refuses_903 rfl (lv_at hl 7 rfl) ?_
                              refine lv_bipush (v := (nI 6)) hx hb dL_refuses_904 (by decide) ?_
                              refine lv_icmp_lt (tgt := 922) hx hb dL_refuses_906 (by decide) (fun c_906 => ?_) (fun c_906 => ?_)
                              · have c_906 := (nc_lt (by omega) (by omega) c_906)
                                refine lv_iload_n hx hb dL_refuses_922 rfl (lv_at hl 6 rfl) ?_
                                refine lv_if_eq (tgt := 945) hx hb dL_refuses_923 (by decide) (fun c_923 => ?_) (fun c_923 => ?_)
                                · have c_923 := (nz_eq c_923 (by omega))
                                  refine lv_iload_n hx hb dL_refuses_945 rfl (lv_at hl 6 rfl) ?_
                                  refine lv_bipush (v := (nI 20)) hx hb dL_refuses_946 (by decide) ?_
                                  refine lv_icmp_lt (tgt := 965) hx hb dL_refuses_948 (by decide) (fun c_948 => ?_) (fun c_948 => ?_)
                                  · have c_948 := (nc_lt (by omega) (by omega) c_948)
                                    refine lv_aload_n hx hb dL_refuses_965 rfl (lv_at hl 8 rfl) ?_
                                    refine lv_iconst (v := (nI 3)) hx hb dL_refuses_966 (by decide) ?_
                                    refine lv_iconst (v := (nI 0)) hx hb dL_refuses_967 (by decide) ?_
                                    refine lv_iconst (v := (nI 5)) hx hb dL_refuses_968 (by decide) ?_
                                    refine lv_iconst (v := (nI 0)) hx hb dL_refuses_969 (by decide) ?_
                                    refine wr_callS (pre := []) (wc := fQ cy x a tr s0 s1 pa q σ n fl tx ln) (va_runS (As := [.ref (x 0), .int (nI 3), .int (nI 0), .int (nI 5), .int (nI 0)]) (rest := []) ⟨hx, hb, hml, hown, hts⟩ (c_L_call_3 l hfl g cy x a tr s0 s1 pa H.size bd q σ Hh n K fl tx ln (nI 0) (nI 5) (nI 0) hI ) ⟨(cB 5 hts wd9_11 wd5_14 wd9_9 rfl rfl (by decide +kernel) ⟨Nat.le_of_ble_eq_true rfl, Nat.le_of_ble_eq_true rfl⟩), hts _ wd9_10⟩ (ps2 (ws := [] ++ fQ cy x a tr s0 s1 pa q σ n fl tx ln) hK hP hD hS hA hX hY _ nd_suffix at_suffix) rfl rfl hl.1 rfl (lv_room (Nat.le_of_ble_eq_true rfl)) dL_refuses_970 ⟨by show _ ≤ 100; omega, by show _ ≤ 600; omega⟩) hP hD hS hA (fun _ => fQ_ad) (fun q H locs hI hP hD hS => ?_)
                                    have hP : va_P g vwCl (fQ cy x a tr s0 s1 pa q σ n fl tx ln) H := hP
                                    have hD : va_D A (fQ cy x a tr s0 s1 pa q σ n fl tx ln) := hD
                                    refine ti (show an (fDog σ (nI 0) (nI 5)) (nI (ndg σ (nI 0).toNatClampNeg (nI 5).toNatClampNeg)) = (nI (if msg σ 0 then 1 else 0)) from (v_dg (w := 5) hn0 (by omega) (by decide))) ?_
                                    show W _ _ _ _ _ _ _ _ _ _ _ _ _ _ _ (F0 mX 973 ls [.int (nI (if msg σ 0 then 1 else 0))])
                                    by_cases hm9 : msg σ 0 = true
                                    · refine ti (show (nI (if msg σ 0 then 1 else 0)) = (nI 1) from (by rw [if_pos hm9])) ?_
                                      refine lv_iconst (v := (nI 1)) hx hb dL_refuses_973 (by decide) ?_
                                      refine lv_icmp_eq (tgt := 1018) hx hb dL_refuses_974 (by decide) (fun c_974 => ?_) (fun c_974 => ?_)
                                      · have c_974 := (nc_eq9 (by omega) (by omega) c_974)
                                        refine lv_iconst (v := (nI 1)) hx hb dL_refuses_1018 (by decide) ?_
                                        refine lv_goto (tgt := 1023) hx hb dL_refuses_1019 (by decide) ?_
                                        exact W.widen (by omega) (by omega) (wr_z (b := true) q rfl rfl hI hP hS hx hb hr dL_refuses_1023 hlk)
                                      · have c_974 := (nc_ne9 (by omega) (by omega) c_974)
                                        omega
                                    · refine ti (show (nI (if msg σ 0 then 1 else 0)) = (nI 0) from (by rw [if_neg hm9])) ?_
                                      refine lv_iconst (v := (nI 1)) hx hb dL_refuses_973 (by decide) ?_
                                      refine lv_icmp_eq (tgt := 1018) hx hb dL_refuses_974 (by decide) (fun c_974 => ?_) (fun c_974 => ?_)
                                      · have c_974 := (nc_eq9 (by omega) (by omega) c_974)
                                        omega
                                      · have c_974 := (nc_ne9 (by omega) (by omega) c_974)
                                        refine lv_aload_n hx hb dL_refuses_977 rfl (lv_at hl 8 rfl) ?_
                                        refine lv_bipush (v := (nI 7)) hx hb dL_refuses_978 (by decide) ?_
                                        refine lv_iconst (v := (nI 0)) hx hb dL_refuses_980 (by decide) ?_
                                        refine lv_iconst (v := (nI 0)) hx hb dL_refuses_981 (by decide) ?_
                                        refine lv_iconst (v := (nI 0)) hx hb dL_refuses_982 (by decide) ?_
                                        refine wr_callS (pre := []) (wc := fQ cy x a tr s0 s1 pa q σ n fl tx ln) (va_runS (As := [.ref (x 0), .int (nI 7), .int (nI 0), .int (nI 0), .int (nI 0)]) (rest := []) ⟨hx, hb, hml, hown, hts⟩ (c_L_call_7 l hfl g cy x a tr s0 s1 pa H.size bd q σ Hh n K fl tx ln (nI 0) (nI 0) (nI 0) hI ) ⟨(cB 5 hts wd9_11 wd5_14 wd9_9 rfl rfl (by decide +kernel) ⟨Nat.le_of_ble_eq_true rfl, Nat.le_of_ble_eq_true rfl⟩), hts _ wd9_10⟩ (ps2 (ws := [] ++ fQ cy x a tr s0 s1 pa q σ n fl tx ln) hK hP hD hS hA hX hY _ nd_suffix at_suffix) rfl rfl hl.1 rfl (lv_room (Nat.le_of_ble_eq_true rfl)) dL_refuses_983 ⟨by show _ ≤ 100; omega, by show _ ≤ 600; omega⟩) hP hD hS hA (fun _ => fQ_ad) (fun q H locs hI hP hD hS => ?_)
                                        have h9 : fFind σ (nI 0) (nI 0) (nI 0) = 3 := (by rw [fFind_in (by decide) (by decide), fAsk_in hn0 (by omega), if_neg hm9])
                                        have h8 : ¬ fFind σ (nI 0) (nI 0) (nI 0) = 0 := by rw [h9]; decide
                                        simp only [if_neg h8] at hI hP hD
                                        have hP : va_P g vwCl (fQ cy x a tr s0 s1 pa q σ n fl tx ln) H := hP
                                        have hD : va_D A (fQ cy x a tr s0 s1 pa q σ n fl tx ln) := hD
                                        refine ti (show an (fFind σ (nI 0) (nI 0) (nI 0)) (nI (findA σ (nI 0) (nI 0) (nI 0))) = (-9999003) from (by rw [an_k h9 (by decide)]; rfl)) ?_
                                        show W _ _ _ _ _ _ _ _ _ _ _ _ _ _ _ (F0 mX 986 ls [.int (-9999003)])
                                        refine lv_ldc hx hb hown (hts _ wd6_2) dL_refuses_986 ?_
                                        refine lv_icmp_ne (tgt := 1022) hx hb dL_refuses_988 (by decide) (fun c_988 => absurd rfl c_988) (fun _ => ?_)
                                        refine lv_aload_n hx hb dL_refuses_991 rfl (lv_at hl 8 rfl) ?_
                                        refine lv_bipush (v := (nI 11)) hx hb dL_refuses_992 (by decide) ?_
                                        refine lv_iconst (v := (nI 0)) hx hb dL_refuses_994 (by decide) ?_
                                        refine lv_iconst (v := (nI 0)) hx hb dL_refuses_995 (by decide) ?_
                                        refine lv_iconst (v := (nI 0)) hx hb dL_refuses_996 (by decide) ?_
                                        refine wr_callS (pre := []) (wc := fQ cy x a tr s0 s1 pa q σ n fl tx ln) (va_runS (As := [.ref (x 0), .int (nI 11), .int (nI 0), .int (nI 0), .int (nI 0)]) (rest := []) ⟨hx, hb, hml, hown, hts⟩ (c_L_call_11 l hfl g cy x a tr s0 s1 pa H.size bd q σ Hh n K fl tx ln (nI 0) (nI 0) (nI 0) hI ) ⟨(cB 5 hts wd9_11 wd5_14 wd9_9 rfl rfl (by decide +kernel) ⟨Nat.le_of_ble_eq_true rfl, Nat.le_of_ble_eq_true rfl⟩), hts _ wd9_10⟩ (ps2 (ws := [] ++ fQ cy x a tr s0 s1 pa q σ n fl tx ln) hK hP hD hS hA hX hY _ nd_suffix at_suffix) rfl rfl hl.1 rfl (lv_room (Nat.le_of_ble_eq_true rfl)) dL_refuses_997 ⟨by show _ ≤ 100; omega, by show _ ≤ 600; omega⟩) hP hD hS hA (fun _ => fQ_ad) (fun q H locs hI hP hD hS => ?_)
                                        have h9 : fAsk σ (nI 0) = 3 := (by rw [fAsk_in hn0 (by omega), if_neg hm9])
                                        have hP : va_P g vwCl (fQ cy x a tr s0 s1 pa q σ n fl tx ln) H := hP
                                        have hD : va_D A (fQ cy x a tr s0 s1 pa q σ n fl tx ln) := hD
                                        refine ti (show an (fAsk σ (nI 0)) (nI (mk (cbe σ (nI 0).toNatClampNeg) 12)) = (-9999003) from (by rw [an_k h9 (by decide)]; rfl)) ?_
                                        show W _ _ _ _ _ _ _ _ _ _ _ _ _ _ _ (F0 mX 1000 ls [.int (-9999003)])
                                        refine lv_ldc hx hb hown (hts _ wd6_2) dL_refuses_1000 ?_
                                        refine lv_icmp_ne (tgt := 1022) hx hb dL_refuses_1002 (by decide) (fun c_1002 => absurd rfl c_1002) (fun _ => ?_)
                                        refine lv_aload_n hx hb dL_refuses_1005 rfl (lv_at hl 8 rfl) ?_
                                        refine lv_iconst (v := (nI 0)) hx hb dL_refuses_1006 (by decide) ?_
                                        refine lv_iconst (v := (nI 0)) hx hb dL_refuses_1007 (by decide) ?_
                                        refine lv_iconst (v := (nI 0)) hx hb dL_refuses_1008 (by decide) ?_
                                        refine lv_iconst (v := (nI 0)) hx hb dL_refuses_1009 (by decide) ?_
                                        refine wr_callS (pre := []) (wc := fQ cy x a tr s0 s1 pa q σ n fl tx ln) (vx_runSW (hh := [(0, 9, 10, 13), (0, 9, 15, 19)]) (As := [.ref (x 0), .int (nI 0), .int (nI 0), .int (nI 0), .int (nI 0)]) (rest := []) ⟨hx, hb, hml, hown, hts⟩ (c_L_ifs l hfl g cy x a tr s0 s1 pa H.size bd q σ Hh n K fl tx ln (nI 0) (nI 0) (nI 0) (nI 0) hI ) (vx_cwSW 5 hts (hl_in wd26_13 wd5_14 wd26_11 wd26_12) rfl rfl rfl (by decide +kernel) ⟨Nat.le_of_ble_eq_true rfl, Nat.le_of_ble_eq_true rfl⟩) (ps2 (ws := [] ++ fQ cy x a tr s0 s1 pa q σ n fl tx ln) hK hP hD hS hA hX hY _ nd_suffix at_suffix) rfl rfl hl.1 rfl (lv_room (Nat.le_of_ble_eq_true rfl)) dL_refuses_1010 ⟨by show _ ≤ 100; omega, by show _ ≤ 600; omega⟩) hP hD hS hA (fun _ => fQ_ad) (fun q H locs hI hP hD hS => ?_)
                                        have h9 : fIff σ (nI 0) (nI 0) (nI 0) (nI 0) = 3 := (by rw [fIff_in (by decide), fFind_in (by decide) (by decide), fAsk_in hn0 (by omega), if_neg hm9])
                                        have hP : va_P g vwCl (fQ cy x a tr s0 s1 pa q σ n fl tx ln) H := hP
                                        have hD : va_D A (fQ cy x a tr s0 s1 pa q σ n fl tx ln) := hD
                                        refine ti (show an (fIff σ (nI 0) (nI 0) (nI 0) (nI 0)) (nI (shr σ (nI 0).toNatClampNeg (nI 0).toNatClampNeg (nI 0).toNatClampNeg (nI 0).toNatClampNeg)) = (-9999003) from (by rw [an_k h9 (by decide)]; rfl)) ?_
                                        show W _ _ _ _ _ _ _ _ _ _ _ _ _ _ _ (F0 mX 1013 ls [.int (-9999003)])
                                        refine lv_ldc hx hb hown (hts _ wd6_2) dL_refuses_1013 ?_
                                        refine lv_icmp_ne (tgt := 1022) hx hb dL_refuses_1015 (by decide) (fun c_1015 => absurd rfl c_1015) (fun _ => ?_)
                                        refine lv_iconst (v := (nI 1)) hx hb dL_refuses_1018 (by decide) ?_
                                        refine lv_goto (tgt := 1023) hx hb dL_refuses_1019 (by decide) ?_
                                        exact W.widen (by omega) (by omega) (wr_z (b := true) q rfl rfl hI hP hS hx hb hr dL_refuses_1023 hlk)
                                  · have c_948 := (nc_nlt (by omega) (by omega) c_948)
                                    refine lv_aload_n hx hb dL_refuses_951 rfl (lv_at hl 8 rfl) ?_
                                    refine lv_iconst (v := (nI 0)) hx hb dL_refuses_952 (by decide) ?_
                                    refine lv_iconst (v := (nI 0)) hx hb dL_refuses_953 (by decide) ?_
                                    refine lv_iconst (v := (nI 5)) hx hb dL_refuses_954 (by decide) ?_
                                    refine lv_iconst (v := (nI 0)) hx hb dL_refuses_955 (by decide) ?_
                                    refine lv_iconst (v := (nI 1)) hx hb dL_refuses_956 (by decide) ?_
                                    refine ti (show (nI 1) = (bI true) from rfl) ?_
                                    refine wr_callS (pre := []) (wc := fQ cy x a tr s0 s1 pa q σ n fl tx ln) (vx_runSW (hh := [(0, 11, 12, 13), (0, 11, 17, 16), (0, 11, 22, 19)]) (As := [.ref (x 0), .int (nI 0), .int (nI 0), .int (nI 5), .int (nI 0), .int (bI true)]) (rest := []) ⟨hx, hb, hml, hown, hts⟩ (c_L_sights l hfl g cy x a tr s0 s1 pa H.size bd q σ Hh n K fl tx ln (nI 0) (nI 0) (nI 5) (nI 0) true hI ) (vx_cwSW 6 hts (hl_in wd25_15 wd5_14 wd25_13 wd25_14) rfl rfl rfl (by decide +kernel) ⟨Nat.le_of_ble_eq_true rfl, Nat.le_of_ble_eq_true rfl⟩) (ps2 (ws := [] ++ fQ cy x a tr s0 s1 pa q σ n fl tx ln) hK hP hD hS hA hX hY _ nd_suffix at_suffix) rfl rfl hl.1 rfl (lv_room (Nat.le_of_ble_eq_true rfl)) dL_refuses_957 ⟨by show _ ≤ 100; omega, by show _ ≤ 600; omega⟩) hP hD hS hA (fun _ => fQ_ad) (fun q H locs hI hP hD hS => ?_)
                                    have h9 : fTell σ (nI 0) (nI 0) (nI 5) (nI 0) = 3 := (by rw [fTell_in (by decide) (by decide) (by decide) (by decide) (by omega), if_pos (Nat.zero_le _), if_pos (by omega)])
                                    have h8 : ¬ fTell σ (nI 0) (nI 0) (nI 5) (nI 0) = 0 := by rw [h9]; decide
                                    simp only [if_neg h8] at hI hP hD
                                    have hP : va_P g vwCl (fQ cy x a tr s0 s1 pa q σ n fl tx ln) H := hP
                                    have hD : va_D A (fQ cy x a tr s0 s1 pa q σ n fl tx ln) := hD
                                    refine ti (show an (fTell σ (nI 0) (nI 0) (nI 5) (nI 0)) (nI (sightA σ (nI 0) (nI 0) (nI 5) (nI 0))) = (-9999003) from (by rw [an_k h9 (by decide)]; rfl)) ?_
                                    show W _ _ _ _ _ _ _ _ _ _ _ _ _ _ _ (F0 mX 960 ls [.int (-9999003)])
                                    refine lv_ldc hx hb hown (hts _ wd6_2) dL_refuses_960 ?_
                                    refine lv_icmp_ne (tgt := 1022) hx hb dL_refuses_962 (by decide) (fun c_962 => absurd rfl c_962) (fun _ => ?_)
                                    refine lv_aload_n hx hb dL_refuses_965 rfl (lv_at hl 8 rfl) ?_
                                    refine lv_iconst (v := (nI 3)) hx hb dL_refuses_966 (by decide) ?_
                                    refine lv_iconst (v := (nI 0)) hx hb dL_refuses_967 (by decide) ?_
                                    refine lv_iconst (v := (nI 5)) hx hb dL_refuses_968 (by decide) ?_
                                    refine lv_iconst (v := (nI 0)) hx hb dL_refuses_969 (by decide) ?_
                                    refine wr_callS (pre := []) (wc := fQ cy x a tr s0 s1 pa q σ n fl tx ln) (va_runS (As := [.ref (x 0), .int (nI 3), .int (nI 0), .int (nI 5), .int (nI 0)]) (rest := []) ⟨hx, hb, hml, hown, hts⟩ (c_L_call_3 l hfl g cy x a tr s0 s1 pa H.size bd q σ Hh n K fl tx ln (nI 0) (nI 5) (nI 0) hI ) ⟨(cB 5 hts wd9_11 wd5_14 wd9_9 rfl rfl (by decide +kernel) ⟨Nat.le_of_ble_eq_true rfl, Nat.le_of_ble_eq_true rfl⟩), hts _ wd9_10⟩ (ps2 (ws := [] ++ fQ cy x a tr s0 s1 pa q σ n fl tx ln) hK hP hD hS hA hX hY _ nd_suffix at_suffix) rfl rfl hl.1 rfl (lv_room (Nat.le_of_ble_eq_true rfl)) dL_refuses_970 ⟨by show _ ≤ 100; omega, by show _ ≤ 600; omega⟩) hP hD hS hA (fun _ => fQ_ad) (fun q H locs hI hP hD hS => ?_)
                                    have hP : va_P g vwCl (fQ cy x a tr s0 s1 pa q σ n fl tx ln) H := hP
                                    have hD : va_D A (fQ cy x a tr s0 s1 pa q σ n fl tx ln) := hD
                                    refine ti (show an (fDog σ (nI 0) (nI 5)) (nI (ndg σ (nI 0).toNatClampNeg (nI 5).toNatClampNeg)) = (nI (if msg σ 0 then 1 else 0)) from (v_dg (w := 5) hn0 (by omega) (by decide))) ?_
                                    show W _ _ _ _ _ _ _ _ _ _ _ _ _ _ _ (F0 mX 973 ls [.int (nI (if msg σ 0 then 1 else 0))])
                                    by_cases hm9 : msg σ 0 = true
                                    · refine ti (show (nI (if msg σ 0 then 1 else 0)) = (nI 1) from (by rw [if_pos hm9])) ?_
                                      refine lv_iconst (v := (nI 1)) hx hb dL_refuses_973 (by decide) ?_
                                      refine lv_icmp_eq (tgt := 1018) hx hb dL_refuses_974 (by decide) (fun c_974 => ?_) (fun c_974 => ?_)
                                      · have c_974 := (nc_eq9 (by omega) (by omega) c_974)
                                        refine lv_iconst (v := (nI 1)) hx hb dL_refuses_1018 (by decide) ?_
                                        refine lv_goto (tgt := 1023) hx hb dL_refuses_1019 (by decide) ?_
                                        exact W.widen (by omega) (by omega) (wr_z (b := true) q rfl rfl hI hP hS hx hb hr dL_refuses_1023 hlk)
                                      · have c_974 := (nc_ne9 (by omega) (by omega) c_974)
                                        omega
                                    · refine ti (show (nI (if msg σ 0 then 1 else 0)) = (nI 0) from (by rw [if_neg hm9])) ?_
                                      refine lv_iconst (v := (nI 1)) hx hb dL_refuses_973 (by decide) ?_
                                      refine lv_icmp_eq (tgt := 1018) hx hb dL_refuses_974 (by decide) (fun c_974 => ?_) (fun c_974 => ?_)
                                      · have c_974 := (nc_eq9 (by omega) (by omega) c_974)
                                        omega
                                      · have c_974 := (nc_ne9 (by omega) (by omega) c_974)
                                        refine lv_aload_n hx hb dL_refuses_977 rfl (lv_at hl 8 rfl) ?_
                                        refine lv_bipush (v := (nI 7)) hx hb dL_refuses_978 (by decide) ?_
                                        refine lv_iconst (v := (nI 0)) hx hb dL_refuses_980 (by decide) ?_
                                        refine lv_iconst (v := (nI 0)) hx hb dL_refuses_981 (by decide) ?_
                                        refine lv_iconst (v := (nI 0)) hx hb dL_refuses_982 (by decide) ?_
                                        refine wr_callS (pre := []) (wc := fQ cy x a tr s0 s1 pa q σ n fl tx ln) (va_runS (As := [.ref (x 0), .int (nI 7), .int (nI 0), .int (nI 0), .int (nI 0)]) (rest := []) ⟨hx, hb, hml, hown, hts⟩ (c_L_call_7 l hfl g cy x a tr s0 s1 pa H.size bd q σ Hh n K fl tx ln (nI 0) (nI 0) (nI 0) hI ) ⟨(cB 5 hts wd9_11 wd5_14 wd9_9 rfl rfl (by decide +kernel) ⟨Nat.le_of_ble_eq_true rfl, Nat.le_of_ble_eq_true rfl⟩), hts _ wd9_10⟩ (ps2 (ws := [] ++ fQ cy x a tr s0 s1 pa q σ n fl tx ln) hK hP hD hS hA hX hY _ nd_suffix at_suffix) rfl rfl hl.1 rfl (lv_room (Nat.le_of_ble_eq_true rfl)) dL_refuses_983 ⟨by show _ ≤ 100; omega, by show _ ≤ 600; omega⟩) hP hD hS hA (fun _ => fQ_ad) (fun q H locs hI hP hD hS => ?_)
                                        have h9 : fFind σ (nI 0) (nI 0) (nI 0) = 3 := (by rw [fFind_in (by decide) (by decide), fAsk_in hn0 (by omega), if_neg hm9])
                                        have h8 : ¬ fFind σ (nI 0) (nI 0) (nI 0) = 0 := by rw [h9]; decide
                                        simp only [if_neg h8] at hI hP hD
                                        have hP : va_P g vwCl (fQ cy x a tr s0 s1 pa q σ n fl tx ln) H := hP
                                        have hD : va_D A (fQ cy x a tr s0 s1 pa q σ n fl tx ln) := hD
                                        refine ti (show an (fFind σ (nI 0) (nI 0) (nI 0)) (nI (findA σ (nI 0) (nI 0) (nI 0))) = (-9999003) from (by rw [an_k h9 (by decide)]; rfl)) ?_
                                        show W _ _ _ _ _ _ _ _ _ _ _ _ _ _ _ (F0 mX 986 ls [.int (-9999003)])
                                        refine lv_ldc hx hb hown (hts _ wd6_2) dL_refuses_986 ?_
                                        refine lv_icmp_ne (tgt := 1022) hx hb dL_refuses_988 (by decide) (fun c_988 => absurd rfl c_988) (fun _ => ?_)
                                        refine lv_aload_n hx hb dL_refuses_991 rfl (lv_at hl 8 rfl) ?_
                                        refine lv_bipush (v := (nI 11)) hx hb dL_refuses_992 (by decide) ?_
                                        refine lv_iconst (v := (nI 0)) hx hb dL_refuses_994 (by decide) ?_
                                        refine lv_iconst (v := (nI 0)) hx hb dL_refuses_995 (by decide) ?_
                                        refine lv_iconst (v := (nI 0)) hx hb dL_refuses_996 (by decide) ?_
                                        refine wr_callS (pre := []) (wc := fQ cy x a tr s0 s1 pa q σ n fl tx ln) (va_runS (As := [.ref (x 0), .int (nI 11), .int (nI 0), .int (nI 0), .int (nI 0)]) (rest := []) ⟨hx, hb, hml, hown, hts⟩ (c_L_call_11 l hfl g cy x a tr s0 s1 pa H.size bd q σ Hh n K fl tx ln (nI 0) (nI 0) (nI 0) hI ) ⟨(cB 5 hts wd9_11 wd5_14 wd9_9 rfl rfl (by decide +kernel) ⟨Nat.le_of_ble_eq_true rfl, Nat.le_of_ble_eq_true rfl⟩), hts _ wd9_10⟩ (ps2 (ws := [] ++ fQ cy x a tr s0 s1 pa q σ n fl tx ln) hK hP hD hS hA hX hY _ nd_suffix at_suffix) rfl rfl hl.1 rfl (lv_room (Nat.le_of_ble_eq_true rfl)) dL_refuses_997 ⟨by show _ ≤ 100; omega, by show _ ≤ 600; omega⟩) hP hD hS hA (fun _ => fQ_ad) (fun q H locs hI hP hD hS => ?_)
                                        have h9 : fAsk σ (nI 0) = 3 := (by rw [fAsk_in hn0 (by omega), if_neg hm9])
                                        have hP : va_P g vwCl (fQ cy x a tr s0 s1 pa q σ n fl tx ln) H := hP
                                        have hD : va_D A (fQ cy x a tr s0 s1 pa q σ n fl tx ln) := hD
                                        refine ti (show an (fAsk σ (nI 0)) (nI (mk (cbe σ (nI 0).toNatClampNeg) 12)) = (-9999003) from (by rw [an_k h9 (by decide)]; rfl)) ?_
                                        show W _ _ _ _ _ _ _ _ _ _ _ _ _ _ _ (F0 mX 1000 ls [.int (-9999003)])
                                        refine lv_ldc hx hb hown (hts _ wd6_2) dL_refuses_1000 ?_
                                        refine lv_icmp_ne (tgt := 1022) hx hb dL_refuses_1002 (by decide) (fun c_1002 => absurd rfl c_1002) (fun _ => ?_)
                                        refine lv_aload_n hx hb dL_refuses_1005 rfl (lv_at hl 8 rfl) ?_
                                        refine lv_iconst (v := (nI 0)) hx hb dL_refuses_1006 (by decide) ?_
                                        refine lv_iconst (v := (nI 0)) hx hb dL_refuses_1007 (by decide) ?_
                                        refine lv_iconst (v := (nI 0)) hx hb dL_refuses_1008 (by decide) ?_
                                        refine lv_iconst (v := (nI 0)) hx hb dL_refuses_1009 (by decide) ?_
                                        refine wr_callS (pre := []) (wc := fQ cy x a tr s0 s1 pa q σ n fl tx ln) (vx_runSW (hh := [(0, 9, 10, 13), (0, 9, 15, 19)]) (As := [.ref (x 0), .int (nI 0), .int (nI 0), .int (nI 0), .int (nI 0)]) (rest := []) ⟨hx, hb, hml, hown, hts⟩ (c_L_ifs l hfl g cy x a tr s0 s1 pa H.size bd q σ Hh n K fl tx ln (nI 0) (nI 0) (nI 0) (nI 0) hI ) (vx_cwSW 5 hts (hl_in wd26_13 wd5_14 wd26_11 wd26_12) rfl rfl rfl (by decide +kernel) ⟨Nat.le_of_ble_eq_true rfl, Nat.le_of_ble_eq_true rfl⟩) (ps2 (ws := [] ++ fQ cy x a tr s0 s1 pa q σ n fl tx ln) hK hP hD hS hA hX hY _ nd_suffix at_suffix) rfl rfl hl.1 rfl (lv_room (Nat.le_of_ble_eq_true rfl)) dL_refuses_1010 ⟨by show _ ≤ 100; omega, by show _ ≤ 600; omega⟩) hP hD hS hA (fun _ => fQ_ad) (fun q H locs hI hP hD hS => ?_)
                                        have h9 : fIff σ (nI 0) (nI 0) (nI 0) (nI 0) = 3 := (by rw [fIff_in (by decide), fFind_in (by decide) (by decide), fAsk_in hn0 (by omega), if_neg hm9])
                                        have hP : va_P g vwCl (fQ cy x a tr s0 s1 pa q σ n fl tx ln) H := hP
                                        have hD : va_D A (fQ cy x a tr s0 s1 pa q σ n fl tx ln) := hD
                                        refine ti (show an (fIff σ (nI 0) (nI 0) (nI 0) (nI 0)) (nI (shr σ (nI 0).toNatClampNeg (nI 0).toNatClampNeg (nI 0).toNatClampNeg (nI 0).toNatClampNeg)) = (-9999003) from (by rw [an_k h9 (by decide)]; rfl)) ?_
                                        show W _ _ _ _ _ _ _ _ _ _ _ _ _ _ _ (F0 mX 1013 ls [.int (-9999003)])
                                        refine lv_ldc hx hb hown (hts _ wd6_2) dL_refuses_1013 ?_
                                        refine lv_icmp_ne (tgt := 1022) hx hb dL_refuses_1015 (by decide) (fun c_1015 => absurd rfl c_1015) (fun _ => ?_)
                                        refine lv_iconst (v := (nI 1)) hx hb dL_refuses_1018 (by decide) ?_
                                        refine lv_goto (tgt := 1023) hx hb dL_refuses_1019 (by decide) ?_
                                        exact W.widen (by omega) (by omega) (wr_z (b := true) q rfl rfl hI hP hS hx hb hr dL_refuses_1023 hlk)
                                · have c_923 := (nz_ne c_923 (by omega))
                                  refine lv_aload_n hx hb dL_refuses_926 rfl (lv_at hl 8 rfl) ?_
                                  refine lv_iconst (v := (nI 4)) hx hb dL_refuses_927 (by decide) ?_
                                  refine lv_iconst (v := (nI 0)) hx hb dL_refuses_928 (by decide) ?_
                                  refine lv_bipush (v := (nI 9)) hx hb dL_refuses_929 (by decide) ?_
                                  refine lv_iload_n hx hb dL_refuses_931 rfl (lv_at hl 9 rfl) ?_
                                  refine lv_bipush (v := (nI 9)) hx hb dL_refuses_932 (by decide) ?_
                                  refine lv_irem hx hb dL_refuses_934 (nI_ne0 (by omega) (by omega)) ?_
                                  refine ti (pk_rem (a := v) (d := 9) (by omega) (by omega) (by omega)) ?_
                                  refine lv_iadd hx hb dL_refuses_935 ?_
                                  refine ti (nI_add 9 (v % 9)) ?_
                                  refine lv_iconst (v := (nI 0)) hx hb dL_refuses_936 (by decide) ?_
                                  refine wr_callS (pre := []) (wc := fQ cy x a tr s0 s1 pa q σ n fl tx ln) (va_runS (As := [.ref (x 0), .int (nI 4), .int (nI 0), .int (nI (9 + (v % 9))), .int (nI 0)]) (rest := []) ⟨hx, hb, hml, hown, hts⟩ (c_L_call_4 l hfl g cy x a tr s0 s1 pa H.size bd q σ Hh n K fl tx ln (nI 0) (nI (9 + (v % 9))) (nI 0) hI ) ⟨(cB 5 hts wd9_11 wd5_14 wd9_9 rfl rfl (by decide +kernel) ⟨Nat.le_of_ble_eq_true rfl, Nat.le_of_ble_eq_true rfl⟩), hts _ wd9_10⟩ (ps2 (ws := [] ++ fQ cy x a tr s0 s1 pa q σ n fl tx ln) hK hP hD hS hA hX hY _ nd_suffix at_suffix) rfl rfl hl.1 rfl (lv_room (Nat.le_of_ble_eq_true rfl)) dL_refuses_937 ⟨by show _ ≤ 100; omega, by show _ ≤ 600; omega⟩) hP hD hS hA (fun _ => fQ_ad) (fun q H locs hI hP hD hS => ?_)
                                  have h9 : fSig σ (nI 0) (nI (9 + (v % 9))) = 2 := (fSig_2 hn1 (by omega) (by omega) (by omega))
                                  have hP : va_P g vwCl (fQ cy x a tr s0 s1 pa q σ n fl tx ln) H := hP
                                  have hD : va_D A (fQ cy x a tr s0 s1 pa q σ n fl tx ln) := hD
                                  refine ti (show an (fSig σ (nI 0) (nI (9 + (v % 9)))) (nI (nsg σ (nI 0).toNatClampNeg (nI (9 + (v % 9))).toNatClampNeg)) = (-9999002) from (by rw [an_k h9 (by decide)]; rfl)) ?_
                                  show W _ _ _ _ _ _ _ _ _ _ _ _ _ _ _ (F0 mX 940 ls [.int (-9999002)])
                                  refine lv_ldc hx hb hown (hts _ wd6_1) dL_refuses_940 ?_
                                  refine lv_icmp_ne (tgt := 1022) hx hb dL_refuses_942 (by decide) (fun c_942 => absurd rfl c_942) (fun _ => ?_)
                                  refine lv_iload_n hx hb dL_refuses_945 rfl (lv_at hl 6 rfl) ?_
                                  refine lv_bipush (v := (nI 20)) hx hb dL_refuses_946 (by decide) ?_
                                  refine lv_icmp_lt (tgt := 965) hx hb dL_refuses_948 (by decide) (fun c_948 => ?_) (fun c_948 => ?_)
                                  · have c_948 := (nc_lt (by omega) (by omega) c_948)
                                    refine lv_aload_n hx hb dL_refuses_965 rfl (lv_at hl 8 rfl) ?_
                                    refine lv_iconst (v := (nI 3)) hx hb dL_refuses_966 (by decide) ?_
                                    refine lv_iconst (v := (nI 0)) hx hb dL_refuses_967 (by decide) ?_
                                    refine lv_iconst (v := (nI 5)) hx hb dL_refuses_968 (by decide) ?_
                                    refine lv_iconst (v := (nI 0)) hx hb dL_refuses_969 (by decide) ?_
                                    refine wr_callS (pre := []) (wc := fQ cy x a tr s0 s1 pa q σ n fl tx ln) (va_runS (As := [.ref (x 0), .int (nI 3), .int (nI 0), .int (nI 5), .int (nI 0)]) (rest := []) ⟨hx, hb, hml, hown, hts⟩ (c_L_call_3 l hfl g cy x a tr s0 s1 pa H.size bd q σ Hh n K fl tx ln (nI 0) (nI 5) (nI 0) hI ) ⟨(cB 5 hts wd9_11 wd5_14 wd9_9 rfl rfl (by decide +kernel) ⟨Nat.le_of_ble_eq_true rfl, Nat.le_of_ble_eq_true rfl⟩), hts _ wd9_10⟩ (ps2 (ws := [] ++ fQ cy x a tr s0 s1 pa q σ n fl tx ln) hK hP hD hS hA hX hY _ nd_suffix at_suffix) rfl rfl hl.1 rfl (lv_room (Nat.le_of_ble_eq_true rfl)) dL_refuses_970 ⟨by show _ ≤ 100; omega, by show _ ≤ 600; omega⟩) hP hD hS hA (fun _ => fQ_ad) (fun q H locs hI hP hD hS => ?_)
                                    have hP : va_P g vwCl (fQ cy x a tr s0 s1 pa q σ n fl tx ln) H := hP
                                    have hD : va_D A (fQ cy x a tr s0 s1 pa q σ n fl tx ln) := hD
                                    refine ti (show an (fDog σ (nI 0) (nI 5)) (nI (ndg σ (nI 0).toNatClampNeg (nI 5).toNatClampNeg)) = (nI (if msg σ 0 then 1 else 0)) from (v_dg (w := 5) hn0 (by omega) (by decide))) ?_
                                    show W _ _ _ _ _ _ _ _ _ _ _ _ _ _ _ (F0 mX 973 ls [.int (nI (if msg σ 0 then 1 else 0))])
                                    by_cases hm9 : msg σ 0 = true
                                    · refine ti (show (nI (if msg σ 0 then 1 else 0)) = (nI 1) from (by rw [if_pos hm9])) ?_
                                      refine lv_iconst (v := (nI 1)) hx hb dL_refuses_973 (by decide) ?_
                                      refine lv_icmp_eq (tgt := 1018) hx hb dL_refuses_974 (by decide) (fun c_974 => ?_) (fun c_974 => ?_)
                                      · have c_974 := (nc_eq9 (by omega) (by omega) c_974)
                                        refine lv_iconst (v := (nI 1)) hx hb dL_refuses_1018 (by decide) ?_
                                        refine lv_goto (tgt := 1023) hx hb dL_refuses_1019 (by decide) ?_
                                        exact W.widen (by omega) (by omega) (wr_z (b := true) q rfl rfl hI hP hS hx hb hr dL_refuses_1023 hlk)
                                      · have c_974 := (nc_ne9 (by omega) (by omega) c_974)
                                        omega
                                    · refine ti (show (nI (if msg σ 0 then 1 else 0)) = (nI 0) from (by rw [if_neg hm9])) ?_
                                      refine lv_iconst (v := (nI 1)) hx hb dL_refuses_973 (by decide) ?_
                                      refine lv_icmp_eq (tgt := 1018) hx hb dL_refuses_974 (by decide) (fun c_974 => ?_) (fun c_974 => ?_)
                                      · have c_974 := (nc_eq9 (by omega) (by omega) c_974)
                                        omega
                                      · have c_974 := (nc_ne9 (by omega) (by omega) c_974)
                                        refine lv_aload_n hx hb dL_refuses_977 rfl (lv_at hl 8 rfl) ?_
                                        refine lv_bipush (v := (nI 7)) hx hb dL_refuses_978 (by decide) ?_
                                        refine lv_iconst (v := (nI 0)) hx hb dL_refuses_980 (by decide) ?_
                                        refine lv_iconst (v := (nI 0)) hx hb dL_refuses_981 (by decide) ?_
                                        refine lv_iconst (v := (nI 0)) hx hb dL_refuses_982 (by decide) ?_
                                        refine wr_callS (pre := []) (wc := fQ cy x a tr s0 s1 pa q σ n fl tx ln) (va_runS (As := [.ref (x 0), .int (nI 7), .int (nI 0), .int (nI 0), .int (nI 0)]) (rest := []) ⟨hx, hb, hml, hown, hts⟩ (c_L_call_7 l hfl g cy x a tr s0 s1 pa H.size bd q σ Hh n K fl tx ln (nI 0) (nI 0) (nI 0) hI ) ⟨(cB 5 hts wd9_11 wd5_14 wd9_9 rfl rfl (by decide +kernel) ⟨Nat.le_of_ble_eq_true rfl, Nat.le_of_ble_eq_true rfl⟩), hts _ wd9_10⟩ (ps2 (ws := [] ++ fQ cy x a tr s0 s1 pa q σ n fl tx ln) hK hP hD hS hA hX hY _ nd_suffix at_suffix) rfl rfl hl.1 rfl (lv_room (Nat.le_of_ble_eq_true rfl)) dL_refuses_983 ⟨by show _ ≤ 100; omega, by show _ ≤ 600; omega⟩) hP hD hS hA (fun _ => fQ_ad) (fun q H locs hI hP hD hS => ?_)
                                        have h9 : fFind σ (nI 0) (nI 0) (nI 0) = 3 := (by rw [fFind_in (by decide) (by decide), fAsk_in hn0 (by omega), if_neg hm9])
                                        have h8 : ¬ fFind σ (nI 0) (nI 0) (nI 0) = 0 := by rw [h9]; decide
                                        simp only [if_neg h8] at hI hP hD
                                        have hP : va_P g vwCl (fQ cy x a tr s0 s1 pa q σ n fl tx ln) H := hP
                                        have hD : va_D A (fQ cy x a tr s0 s1 pa q σ n fl tx ln) := hD
                                        refine ti (show an (fFind σ (nI 0) (nI 0) (nI 0)) (nI (findA σ (nI 0) (nI 0) (nI 0))) = (-9999003) from (by rw [an_k h9 (by decide)]; rfl)) ?_
                                        show W _ _ _ _ _ _ _ _ _ _ _ _ _ _ _ (F0 mX 986 ls [.int (-9999003)])
                                        refine lv_ldc hx hb hown (hts _ wd6_2) dL_refuses_986 ?_
                                        refine lv_icmp_ne (tgt := 1022) hx hb dL_refuses_988 (by decide) (fun c_988 => absurd rfl c_988) (fun _ => ?_)
                                        refine lv_aload_n hx hb dL_refuses_991 rfl (lv_at hl 8 rfl) ?_
                                        refine lv_bipush (v := (nI 11)) hx hb dL_refuses_992 (by decide) ?_
                                        refine lv_iconst (v := (nI 0)) hx hb dL_refuses_994 (by decide) ?_
                                        refine lv_iconst (v := (nI 0)) hx hb dL_refuses_995 (by decide) ?_
                                        refine lv_iconst (v := (nI 0)) hx hb dL_refuses_996 (by decide) ?_
                                        refine wr_callS (pre := []) (wc := fQ cy x a tr s0 s1 pa q σ n fl tx ln) (va_runS (As := [.ref (x 0), .int (nI 11), .int (nI 0), .int (nI 0), .int (nI 0)]) (rest := []) ⟨hx, hb, hml, hown, hts⟩ (c_L_call_11 l hfl g cy x a tr s0 s1 pa H.size bd q σ Hh n K fl tx ln (nI 0) (nI 0) (nI 0) hI ) ⟨(cB 5 hts wd9_11 wd5_14 wd9_9 rfl rfl (by decide +kernel) ⟨Nat.le_of_ble_eq_true rfl, Nat.le_of_ble_eq_true rfl⟩), hts _ wd9_10⟩ (ps2 (ws := [] ++ fQ cy x a tr s0 s1 pa q σ n fl tx ln) hK hP hD hS hA hX hY _ nd_suffix at_suffix) rfl rfl hl.1 rfl (lv_room (Nat.le_of_ble_eq_true rfl)) dL_refuses_997 ⟨by show _ ≤ 100; omega, by show _ ≤ 600; omega⟩) hP hD hS hA (fun _ => fQ_ad) (fun q H locs hI hP hD hS => ?_)
                                        have h9 : fAsk σ (nI 0) = 3 := (by rw [fAsk_in hn0 (by omega), if_neg hm9])
                                        have hP : va_P g vwCl (fQ cy x a tr s0 s1 pa q σ n fl tx ln) H := hP
                                        have hD : va_D A (fQ cy x a tr s0 s1 pa q σ n fl tx ln) := hD
                                        refine ti (show an (fAsk σ (nI 0)) (nI (mk (cbe σ (nI 0).toNatClampNeg) 12)) = (-9999003) from (by rw [an_k h9 (by decide)]; rfl)) ?_
                                        show W _ _ _ _ _ _ _ _ _ _ _ _ _ _ _ (F0 mX 1000 ls [.int (-9999003)])
                                        refine lv_ldc hx hb hown (hts _ wd6_2) dL_refuses_1000 ?_
                                        refine lv_icmp_ne (tgt := 1022) hx hb dL_refuses_1002 (by decide) (fun c_1002 => absurd rfl c_1002) (fun _ => ?_)
                                        refine lv_aload_n hx hb dL_refuses_1005 rfl (lv_at hl 8 rfl) ?_
                                        refine lv_iconst (v := (nI 0)) hx hb dL_refuses_1006 (by decide) ?_
                                        refine lv_iconst (v := (nI 0)) hx hb dL_refuses_1007 (by decide) ?_
                                        refine lv_iconst (v := (nI 0)) hx hb dL_refuses_1008 (by decide) ?_
                                        refine lv_iconst (v := (nI 0)) hx hb dL_refuses_1009 (by decide) ?_
                                        refine wr_callS (pre := []) (wc := fQ cy x a tr s0 s1 pa q σ n fl tx ln) (vx_runSW (hh := [(0, 9, 10, 13), (0, 9, 15, 19)]) (As := [.ref (x 0), .int (nI 0), .int (nI 0), .int (nI 0), .int (nI 0)]) (rest := []) ⟨hx, hb, hml, hown, hts⟩ (c_L_ifs l hfl g cy x a tr s0 s1 pa H.size bd q σ Hh n K fl tx ln (nI 0) (nI 0) (nI 0) (nI 0) hI ) (vx_cwSW 5 hts (hl_in wd26_13 wd5_14 wd26_11 wd26_12) rfl rfl rfl (by decide +kernel) ⟨Nat.le_of_ble_eq_true rfl, Nat.le_of_ble_eq_true rfl⟩) (ps2 (ws := [] ++ fQ cy x a tr s0 s1 pa q σ n fl tx ln) hK hP hD hS hA hX hY _ nd_suffix at_suffix) rfl rfl hl.1 rfl (lv_room (Nat.le_of_ble_eq_true rfl)) dL_refuses_1010 ⟨by show _ ≤ 100; omega, by show _ ≤ 600; omega⟩) hP hD hS hA (fun _ => fQ_ad) (fun q H locs hI hP hD hS => ?_)
                                        have h9 : fIff σ (nI 0) (nI 0) (nI 0) (nI 0) = 3 := (by rw [fIff_in (by decide), fFind_in (by decide) (by decide), fAsk_in hn0 (by omega), if_neg hm9])
                                        have hP : va_P g vwCl (fQ cy x a tr s0 s1 pa q σ n fl tx ln) H := hP
                                        have hD : va_D A (fQ cy x a tr s0 s1 pa q σ n fl tx ln) := hD
                                        refine ti (show an (fIff σ (nI 0) (nI 0) (nI 0) (nI 0)) (nI (shr σ (nI 0).toNatClampNeg (nI 0).toNatClampNeg (nI 0).toNatClampNeg (nI 0).toNatClampNeg)) = (-9999003) from (by rw [an_k h9 (by decide)]; rfl)) ?_
                                        show W _ _ _ _ _ _ _ _ _ _ _ _ _ _ _ (F0 mX 1013 ls [.int (-9999003)])
                                        refine lv_ldc hx hb hown (hts _ wd6_2) dL_refuses_1013 ?_
                                        refine lv_icmp_ne (tgt := 1022) hx hb dL_refuses_1015 (by decide) (fun c_1015 => absurd rfl c_1015) (fun _ => ?_)
                                        refine lv_iconst (v := (nI 1)) hx hb dL_refuses_1018 (by decide) ?_
                                        refine lv_goto (tgt := 1023) hx hb dL_refuses_1019 (by decide) ?_
                                        exact W.widen (by omega) (by omega) (wr_z (b := true) q rfl rfl hI hP hS hx hb hr dL_refuses_1023 hlk)
                                  · have c_948 := (nc_nlt (by omega) (by omega) c_948)
                                    refine lv_aload_n hx hb dL_refuses_951 rfl (lv_at hl 8 rfl) ?_
                                    refine lv_iconst (v := (nI 0)) hx hb dL_refuses_952 (by decide) ?_
                                    refine lv_iconst (v := (nI 0)) hx hb dL_refuses_953 (by decide) ?_
                                    refine lv_iconst (v := (nI 5)) hx hb dL_refuses_954 (by decide) ?_
                                    refine lv_iconst (v := (nI 0)) hx hb dL_refuses_955 (by decide) ?_
                                    refine lv_iconst (v := (nI 1)) hx hb dL_refuses_956 (by decide) ?_
                                    refine ti (show (nI 1) = (bI true) from rfl) ?_
                                    refine wr_callS (pre := []) (wc := fQ cy x a tr s0 s1 pa q σ n fl tx ln) (vx_runSW (hh := [(0, 11, 12, 13), (0, 11, 17, 16), (0, 11, 22, 19)]) (As := [.ref (x 0), .int (nI 0), .int (nI 0), .int (nI 5), .int (nI 0), .int (bI true)]) (rest := []) ⟨hx, hb, hml, hown, hts⟩ (c_L_sights l hfl g cy x a tr s0 s1 pa H.size bd q σ Hh n K fl tx ln (nI 0) (nI 0) (nI 5) (nI 0) true hI ) (vx_cwSW 6 hts (hl_in wd25_15 wd5_14 wd25_13 wd25_14) rfl rfl rfl (by decide +kernel) ⟨Nat.le_of_ble_eq_true rfl, Nat.le_of_ble_eq_true rfl⟩) (ps2 (ws := [] ++ fQ cy x a tr s0 s1 pa q σ n fl tx ln) hK hP hD hS hA hX hY _ nd_suffix at_suffix) rfl rfl hl.1 rfl (lv_room (Nat.le_of_ble_eq_true rfl)) dL_refuses_957 ⟨by show _ ≤ 100; omega, by show _ ≤ 600; omega⟩) hP hD hS hA (fun _ => fQ_ad) (fun q H locs hI hP hD hS => ?_)
                                    have h9 : fTell σ (nI 0) (nI 0) (nI 5) (nI 0) = 3 := (by rw [fTell_in (by decide) (by decide) (by decide) (by decide) (by omega), if_pos (Nat.zero_le _), if_pos (by omega)])
                                    have h8 : ¬ fTell σ (nI 0) (nI 0) (nI 5) (nI 0) = 0 := by rw [h9]; decide
                                    simp only [if_neg h8] at hI hP hD
                                    have hP : va_P g vwCl (fQ cy x a tr s0 s1 pa q σ n fl tx ln) H := hP
                                    have hD : va_D A (fQ cy x a tr s0 s1 pa q σ n fl tx ln) := hD
                                    refine ti (show an (fTell σ (nI 0) (nI 0) (nI 5) (nI 0)) (nI (sightA σ (nI 0) (nI 0) (nI 5) (nI 0))) = (-9999003) from (by rw [an_k h9 (by decide)]; rfl)) ?_
                                    show W _ _ _ _ _ _ _ _ _ _ _ _ _ _ _ (F0 mX 960 ls [.int (-9999003)])
                                    refine lv_ldc hx hb hown (hts _ wd6_2) dL_refuses_960 ?_
                                    refine lv_icmp_ne (tgt := 1022) hx hb dL_refuses_962 (by decide) (fun c_962 => absurd rfl c_962) (fun _ => ?_)
                                    refine lv_aload_n hx hb dL_refuses_965 rfl (lv_at hl 8 rfl) ?_
                                    refine lv_iconst (v := (nI 3)) hx hb dL_refuses_966 (by decide) ?_
                                    refine lv_iconst (v := (nI 0)) hx hb dL_refuses_967 (by decide) ?_
                                    refine lv_iconst (v := (nI 5)) hx hb dL_refuses_968 (by decide) ?_
                                    refine lv_iconst (v := (nI 0)) hx hb dL_refuses_969 (by decide) ?_
                                    refine wr_callS (pre := []) (wc := fQ cy x a tr s0 s1 pa q σ n fl tx ln) (va_runS (As := [.ref (x 0), .int (nI 3), .int (nI 0), .int (nI 5), .int (nI 0)]) (rest := []) ⟨hx, hb, hml, hown, hts⟩ (c_L_call_3 l hfl g cy x a tr s0 s1 pa H.size bd q σ Hh n K fl tx ln (nI 0) (nI 5) (nI 0) hI ) ⟨(cB 5 hts wd9_11 wd5_14 wd9_9 rfl rfl (by decide +kernel) ⟨Nat.le_of_ble_eq_true rfl, Nat.le_of_ble_eq_true rfl⟩), hts _ wd9_10⟩ (ps2 (ws := [] ++ fQ cy x a tr s0 s1 pa q σ n fl tx ln) hK hP hD hS hA hX hY _ nd_suffix at_suffix) rfl rfl hl.1 rfl (lv_room (Nat.le_of_ble_eq_true rfl)) dL_refuses_970 ⟨by show _ ≤ 100; omega, by show _ ≤ 600; omega⟩) hP hD hS hA (fun _ => fQ_ad) (fun q H locs hI hP hD hS => ?_)
                                    have hP : va_P g vwCl (fQ cy x a tr s0 s1 pa q σ n fl tx ln) H := hP
                                    have hD : va_D A (fQ cy x a tr s0 s1 pa q σ n fl tx ln) := hD
                                    refine ti (show an (fDog σ (nI 0) (nI 5)) (nI (ndg σ (nI 0).toNatClampNeg (nI 5).toNatClampNeg)) = (nI (if msg σ 0 then 1 else 0)) from (v_dg (w := 5) hn0 (by omega) (by decide))) ?_
                                    show W _ _ _ _ _ _ _ _ _ _ _ _ _ _ _ (F0 mX 973 ls [.int (nI (if msg σ 0 then 1 else 0))])
                                    by_cases hm9 : msg σ 0 = true
                                    · refine ti (show (nI (if msg σ 0 then 1 else 0)) = (nI 1) from (by rw [if_pos hm9])) ?_
                                      refine lv_iconst (v := (nI 1)) hx hb dL_refuses_973 (by decide) ?_
                                      refine lv_icmp_eq (tgt := 1018) hx hb dL_refuses_974 (by decide) (fun c_974 => ?_) (fun c_974 => ?_)
                                      · have c_974 := (nc_eq9 (by omega) (by omega) c_974)
                                        refine lv_iconst (v := (nI 1)) hx hb dL_refuses_1018 (by decide) ?_
                                        refine lv_goto (tgt := 1023) hx hb dL_refuses_1019 (by decide) ?_
                                        exact W.widen (by omega) (by omega) (wr_z (b := true) q rfl rfl hI hP hS hx hb hr dL_refuses_1023 hlk)
                                      · have c_974 := (nc_ne9 (by omega) (by omega) c_974)
                                        omega
                                    · refine ti (show (nI (if msg σ 0 then 1 else 0)) = (nI 0) from (by rw [if_neg hm9])) ?_
                                      refine lv_iconst (v := (nI 1)) hx hb dL_refuses_973 (by decide) ?_
                                      refine lv_icmp_eq (tgt := 1018) hx hb dL_refuses_974 (by decide) (fun c_974 => ?_) (fun c_974 => ?_)
                                      · have c_974 := (nc_eq9 (by omega) (by omega) c_974)
                                        omega
                                      · have c_974 := (nc_ne9 (by omega) (by omega) c_974)
                                        refine lv_aload_n hx hb dL_refuses_977 rfl (lv_at hl 8 rfl) ?_
                                        refine lv_bipush (v := (nI 7)) hx hb dL_refuses_978 (by decide) ?_
                                        refine lv_iconst (v := (nI 0)) hx hb dL_refuses_980 (by decide) ?_
                                        refine lv_iconst (v := (nI 0)) hx hb dL_refuses_981 (by decide) ?_
                                        refine lv_iconst (v := (nI 0)) hx hb dL_refuses_982 (by decide) ?_
                                        refine wr_callS (pre := []) (wc := fQ cy x a tr s0 s1 pa q σ n fl tx ln) (va_runS (As := [.ref (x 0), .int (nI 7), .int (nI 0), .int (nI 0), .int (nI 0)]) (rest := []) ⟨hx, hb, hml, hown, hts⟩ (c_L_call_7 l hfl g cy x a tr s0 s1 pa H.size bd q σ Hh n K fl tx ln (nI 0) (nI 0) (nI 0) hI ) ⟨(cB 5 hts wd9_11 wd5_14 wd9_9 rfl rfl (by decide +kernel) ⟨Nat.le_of_ble_eq_true rfl, Nat.le_of_ble_eq_true rfl⟩), hts _ wd9_10⟩ (ps2 (ws := [] ++ fQ cy x a tr s0 s1 pa q σ n fl tx ln) hK hP hD hS hA hX hY _ nd_suffix at_suffix) rfl rfl hl.1 rfl (lv_room (Nat.le_of_ble_eq_true rfl)) dL_refuses_983 ⟨by show _ ≤ 100; omega, by show _ ≤ 600; omega⟩) hP hD hS hA (fun _ => fQ_ad) (fun q H locs hI hP hD hS => ?_)
                                        have h9 : fFind σ (nI 0) (nI 0) (nI 0) = 3 := (by rw [fFind_in (by decide) (by decide), fAsk_in hn0 (by omega), if_neg hm9])
                                        have h8 : ¬ fFind σ (nI 0) (nI 0) (nI 0) = 0 := by rw [h9]; decide
                                        simp only [if_neg h8] at hI hP hD
                                        have hP : va_P g vwCl (fQ cy x a tr s0 s1 pa q σ n fl tx ln) H := hP
                                        have hD : va_D A (fQ cy x a tr s0 s1 pa q σ n fl tx ln) := hD
                                        refine ti (show an (fFind σ (nI 0) (nI 0) (nI 0)) (nI (findA σ (nI 0) (nI 0) (nI 0))) = (-9999003) from (by rw [an_k h9 (by decide)]; rfl)) ?_
                                        show W _ _ _ _ _ _ _ _ _ _ _ _ _ _ _ (F0 mX 986 ls [.int (-9999003)])
                                        refine lv_ldc hx hb hown (hts _ wd6_2) dL_refuses_986 ?_
                                        refine lv_icmp_ne (tgt := 1022) hx hb dL_refuses_988 (by decide) (fun c_988 => absurd rfl c_988) (fun _ => ?_)
                                        refine lv_aload_n hx hb dL_refuses_991 rfl (lv_at hl 8 rfl) ?_
                                        refine lv_bipush (v := (nI 11)) hx hb dL_refuses_992 (by decide) ?_
                                        refine lv_iconst (v := (nI 0)) hx hb dL_refuses_994 (by decide) ?_
                                        refine lv_iconst (v := (nI 0)) hx hb dL_refuses_995 (by decide) ?_
                                        refine lv_iconst (v := (nI 0)) hx hb dL_refuses_996 (by decide) ?_
                                        refine wr_callS (pre := []) (wc := fQ cy x a tr s0 s1 pa q σ n fl tx ln) (va_runS (As := [.ref (x 0), .int (nI 11), .int (nI 0), .int (nI 0), .int (nI 0)]) (rest := []) ⟨hx, hb, hml, hown, hts⟩ (c_L_call_11 l hfl g cy x a tr s0 s1 pa H.size bd q σ Hh n K fl tx ln (nI 0) (nI 0) (nI 0) hI ) ⟨(cB 5 hts wd9_11 wd5_14 wd9_9 rfl rfl (by decide +kernel) ⟨Nat.le_of_ble_eq_true rfl, Nat.le_of_ble_eq_true rfl⟩), hts _ wd9_10⟩ (ps2 (ws := [] ++ fQ cy x a tr s0 s1 pa q σ n fl tx ln) hK hP hD hS hA hX hY _ nd_suffix at_suffix) rfl rfl hl.1 rfl (lv_room (Nat.le_of_ble_eq_true rfl)) dL_refuses_997 ⟨by show _ ≤ 100; omega, by show _ ≤ 600; omega⟩) hP hD hS hA (fun _ => fQ_ad) (fun q H locs hI hP hD hS => ?_)
                                        have h9 : fAsk σ (nI 0) = 3 := (by rw [fAsk_in hn0 (by omega), if_neg hm9])
                                        have hP : va_P g vwCl (fQ cy x a tr s0 s1 pa q σ n fl tx ln) H := hP
                                        have hD : va_D A (fQ cy x a tr s0 s1 pa q σ n fl tx ln) := hD
                                        refine ti (show an (fAsk σ (nI 0)) (nI (mk (cbe σ (nI 0).toNatClampNeg) 12)) = (-9999003) from (by rw [an_k h9 (by decide)]; rfl)) ?_
                                        show W _ _ _ _ _ _ _ _ _ _ _ _ _ _ _ (F0 mX 1000 ls [.int (-9999003)])
                                        refine lv_ldc hx hb hown (hts _ wd6_2) dL_refuses_1000 ?_
                                        refine lv_icmp_ne (tgt := 1022) hx hb dL_refuses_1002 (by decide) (fun c_1002 => absurd rfl c_1002) (fun _ => ?_)
                                        refine lv_aload_n hx hb dL_refuses_1005 rfl (lv_at hl 8 rfl) ?_
                                        refine lv_iconst (v := (nI 0)) hx hb dL_refuses_1006 (by decide) ?_
                                        refine lv_iconst (v := (nI 0)) hx hb dL_refuses_1007 (by decide) ?_
                                        refine lv_iconst (v := (nI 0)) hx hb dL_refuses_1008 (by decide) ?_
                                        refine lv_iconst (v := (nI 0)) hx hb dL_refuses_1009 (by decide) ?_
                                        refine wr_callS (pre := []) (wc := fQ cy x a tr s0 s1 pa q σ n fl tx ln) (vx_runSW (hh := [(0, 9, 10, 13), (0, 9, 15, 19)]) (As := [.ref (x 0), .int (nI 0), .int (nI 0), .int (nI 0), .int (nI 0)]) (rest := []) ⟨hx, hb, hml, hown, hts⟩ (c_L_ifs l hfl g cy x a tr s0 s1 pa H.size bd q σ Hh n K fl tx ln (nI 0) (nI 0) (nI 0) (nI 0) hI ) (vx_cwSW 5 hts (hl_in wd26_13 wd5_14 wd26_11 wd26_12) rfl rfl rfl (by decide +kernel) ⟨Nat.le_of_ble_eq_true rfl, Nat.le_of_ble_eq_true rfl⟩) (ps2 (ws := [] ++ fQ cy x a tr s0 s1 pa q σ n fl tx ln) hK hP hD hS hA hX hY _ nd_suffix at_suffix) rfl rfl hl.1 rfl (lv_room (Nat.le_of_ble_eq_true rfl)) dL_refuses_1010 ⟨by show _ ≤ 100; omega, by show _ ≤ 600; omega⟩) hP hD hS hA (fun _ => fQ_ad) (fun q H locs hI hP hD hS => ?_)
                                        have h9 : fIff σ (nI 0) (nI 0) (nI 0) (nI 0) = 3 := (by rw [fIff_in (by decide), fFind_in (by decide) (by decide), fAsk_in hn0 (by omega), if_neg hm9])
                                        have hP : va_P g vwCl (fQ cy x a tr s0 s1 pa q σ n fl tx ln) H := hP
                                        have hD : va_D A (fQ cy x a tr s0 s1 pa q σ n fl tx ln) := hD
                                        refine ti (show an (fIff σ (nI 0) (nI 0) (nI 0) (nI 0)) (nI (shr σ (nI 0).toNatClampNeg (nI 0).toNatClampNeg (nI 0).toNatClampNeg (nI 0).toNatClampNeg)) = (-9999003) from (by rw [an_k h9 (by decide)]; rfl)) ?_
                                        show W _ _ _ _ _ _ _ _ _ _ _ _ _ _ _ (F0 mX 1013 ls [.int (-9999003)])
                                        refine lv_ldc hx hb hown (hts _ wd6_2) dL_refuses_1013 ?_
                                        refine lv_icmp_ne (tgt := 1022) hx hb dL_refuses_1015 (by decide) (fun c_1015 => absurd rfl c_1015) (fun _ => ?_)
                                        refine lv_iconst (v := (nI 1)) hx hb dL_refuses_1018 (by decide) ?_
                                        refine lv_goto (tgt := 1023) hx hb dL_refuses_1019 (by decide) ?_
                                        exact W.widen (by omega) (by omega) (wr_z (b := true) q rfl rfl hI hP hS hx hb hr dL_refuses_1023 hlk)
                              · have c_906 := (nc_nlt (by omega) (by omega) c_906)
                                refine lv_aload_n hx hb dL_refuses_909 rfl (lv_at hl 8 rfl) ?_
                                refine lv_iconst (v := (nI 5)) hx hb dL_refuses_910 (by decide) ?_
                                refine lv_iconst (v := (nI 1)) hx hb dL_refuses_911 (by decide) ?_
                                refine lv_iconst (v := (nI 0)) hx hb dL_refuses_912 (by decide) ?_
                                refine lv_iconst (v := (nI 5)) hx hb dL_refuses_913 (by decide) ?_
                                refine wr_callS (pre := []) (wc := fQ cy x a tr s0 s1 pa q σ n fl tx ln) (vx_runSW (hh := [(0, 9, 10, 13), (0, 9, 15, 16), (0, 9, 20, 19)]) (As := [.ref (x 0), .int (nI 5), .int (nI 1), .int (nI 0), .int (nI 5)]) (rest := []) ⟨hx, hb, hml, hown, hts⟩ (c_L_loses l hfl g cy x a tr s0 s1 pa H.size bd q σ Hh n K fl tx ln (nI 5) (nI 1) (nI 0) (nI 5) hI ) (vx_cwSW 5 hts (hl_in wd5_20 wd5_14 wd5_18 wd5_19) rfl rfl rfl (by decide +kernel) ⟨Nat.le_of_ble_eq_true rfl, Nat.le_of_ble_eq_true rfl⟩) (ps2 (ws := [] ++ fQ cy x a tr s0 s1 pa q σ n fl tx ln) hK hP hD hS hA hX hY _ nd_suffix at_suffix) rfl rfl hl.1 rfl (lv_room (Nat.le_of_ble_eq_true rfl)) dL_refuses_914 ⟨by show _ ≤ 100; omega, by show _ ≤ 600; omega⟩) hP hD hS hA (fun _ => fQ_ad) (fun q H locs hI hP hD hS => ?_)
                                have h9 : fLose σ (nI 5) (nI 1) (nI 0) (nI 5) = 3 := (by rw [fLose_in (by decide) (by decide) (by decide) (by decide) (by decide) (by decide) (by decide), if_pos (by omega)])
                                have h8 : ¬ fLose σ (nI 5) (nI 1) (nI 0) (nI 5) = 0 := by rw [h9]; decide
                                simp only [if_neg h8] at hI hP hD
                                have hP : va_P g vwCl (fQ cy x a tr s0 s1 pa q σ n fl tx ln) H := hP
                                have hD : va_D A (fQ cy x a tr s0 s1 pa q σ n fl tx ln) := hD
                                refine ti (show an (fLose σ (nI 5) (nI 1) (nI 0) (nI 5)) (nI (σ 0)) = (-9999003) from (by rw [an_k h9 (by decide)]; rfl)) ?_
                                show W _ _ _ _ _ _ _ _ _ _ _ _ _ _ _ (F0 mX 917 ls [.int (-9999003)])
                                refine lv_ldc hx hb hown (hts _ wd6_2) dL_refuses_917 ?_
                                refine lv_icmp_ne (tgt := 1022) hx hb dL_refuses_919 (by decide) (fun c_919 => absurd rfl c_919) (fun _ => ?_)
                                refine lv_iload_n hx hb dL_refuses_922 rfl (lv_at hl 6 rfl) ?_
                                refine lv_if_eq (tgt := 945) hx hb dL_refuses_923 (by decide) (fun c_923 => ?_) (fun c_923 => ?_)
                                · have c_923 := (nz_eq c_923 (by omega))
                                  refine lv_iload_n hx hb dL_refuses_945 rfl (lv_at hl 6 rfl) ?_
                                  refine lv_bipush (v := (nI 20)) hx hb dL_refuses_946 (by decide) ?_
                                  refine lv_icmp_lt (tgt := 965) hx hb dL_refuses_948 (by decide) (fun c_948 => ?_) (fun c_948 => ?_)
                                  · have c_948 := (nc_lt (by omega) (by omega) c_948)
                                    refine lv_aload_n hx hb dL_refuses_965 rfl (lv_at hl 8 rfl) ?_
                                    refine lv_iconst (v := (nI 3)) hx hb dL_refuses_966 (by decide) ?_
                                    refine lv_iconst (v := (nI 0)) hx hb dL_refuses_967 (by decide) ?_
                                    refine lv_iconst (v := (nI 5)) hx hb dL_refuses_968 (by decide) ?_
                                    refine lv_iconst (v := (nI 0)) hx hb dL_refuses_969 (by decide) ?_
                                    refine wr_callS (pre := []) (wc := fQ cy x a tr s0 s1 pa q σ n fl tx ln) (va_runS (As := [.ref (x 0), .int (nI 3), .int (nI 0), .int (nI 5), .int (nI 0)]) (rest := []) ⟨hx, hb, hml, hown, hts⟩ (c_L_call_3 l hfl g cy x a tr s0 s1 pa H.size bd q σ Hh n K fl tx ln (nI 0) (nI 5) (nI 0) hI ) ⟨(cB 5 hts wd9_11 wd5_14 wd9_9 rfl rfl (by decide +kernel) ⟨Nat.le_of_ble_eq_true rfl, Nat.le_of_ble_eq_true rfl⟩), hts _ wd9_10⟩ (ps2 (ws := [] ++ fQ cy x a tr s0 s1 pa q σ n fl tx ln) hK hP hD hS hA hX hY _ nd_suffix at_suffix) rfl rfl hl.1 rfl (lv_room (Nat.le_of_ble_eq_true rfl)) dL_refuses_970 ⟨by show _ ≤ 100; omega, by show _ ≤ 600; omega⟩) hP hD hS hA (fun _ => fQ_ad) (fun q H locs hI hP hD hS => ?_)
                                    have hP : va_P g vwCl (fQ cy x a tr s0 s1 pa q σ n fl tx ln) H := hP
                                    have hD : va_D A (fQ cy x a tr s0 s1 pa q σ n fl tx ln) := hD
                                    refine ti (show an (fDog σ (nI 0) (nI 5)) (nI (ndg σ (nI 0).toNatClampNeg (nI 5).toNatClampNeg)) = (nI (if msg σ 0 then 1 else 0)) from (v_dg (w := 5) hn0 (by omega) (by decide))) ?_
                                    show W _ _ _ _ _ _ _ _ _ _ _ _ _ _ _ (F0 mX 973 ls [.int (nI (if msg σ 0 then 1 else 0))])
                                    by_cases hm9 : msg σ 0 = true
                                    · refine ti (show (nI (if msg σ 0 then 1 else 0)) = (nI 1) from (by rw [if_pos hm9])) ?_
                                      refine lv_iconst (v := (nI 1)) hx hb dL_refuses_973 (by decide) ?_
                                      refine lv_icmp_eq (tgt := 1018) hx hb dL_refuses_974 (by decide) (fun c_974 => ?_) (fun c_974 => ?_)
                                      · have c_974 := (nc_eq9 (by omega) (by omega) c_974)
                                        refine lv_iconst (v := (nI 1)) hx hb dL_refuses_1018 (by decide) ?_
                                        refine lv_goto (tgt := 1023) hx hb dL_refuses_1019 (by decide) ?_
                                        exact W.widen (by omega) (by omega) (wr_z (b := true) q rfl rfl hI hP hS hx hb hr dL_refuses_1023 hlk)
                                      · have c_974 := (nc_ne9 (by omega) (by omega) c_974)
                                        omega
                                    · refine ti (show (nI (if msg σ 0 then 1 else 0)) = (nI 0) from (by rw [if_neg hm9])) ?_
                                      refine lv_iconst (v := (nI 1)) hx hb dL_refuses_973 (by decide) ?_
                                      refine lv_icmp_eq (tgt := 1018) hx hb dL_refuses_974 (by decide) (fun c_974 => ?_) (fun c_974 => ?_)
                                      · have c_974 := (nc_eq9 (by omega) (by omega) c_974)
                                        omega
                                      · have c_974 := (nc_ne9 (by omega) (by omega) c_974)
                                        refine lv_aload_n hx hb dL_refuses_977 rfl (lv_at hl 8 rfl) ?_
                                        refine lv_bipush (v := (nI 7)) hx hb dL_refuses_978 (by decide) ?_
                                        refine lv_iconst (v := (nI 0)) hx hb dL_refuses_980 (by decide) ?_
                                        refine lv_iconst (v := (nI 0)) hx hb dL_refuses_981 (by decide) ?_
                                        refine lv_iconst (v := (nI 0)) hx hb dL_refuses_982 (by decide) ?_
                                        refine wr_callS (pre := []) (wc := fQ cy x a tr s0 s1 pa q σ n fl tx ln) (va_runS (As := [.ref (x 0), .int (nI 7), .int (nI 0), .int (nI 0), .int (nI 0)]) (rest := []) ⟨hx, hb, hml, hown, hts⟩ (c_L_call_7 l hfl g cy x a tr s0 s1 pa H.size bd q σ Hh n K fl tx ln (nI 0) (nI 0) (nI 0) hI ) ⟨(cB 5 hts wd9_11 wd5_14 wd9_9 rfl rfl (by decide +kernel) ⟨Nat.le_of_ble_eq_true rfl, Nat.le_of_ble_eq_true rfl⟩), hts _ wd9_10⟩ (ps2 (ws := [] ++ fQ cy x a tr s0 s1 pa q σ n fl tx ln) hK hP hD hS hA hX hY _ nd_suffix at_suffix) rfl rfl hl.1 rfl (lv_room (Nat.le_of_ble_eq_true rfl)) dL_refuses_983 ⟨by show _ ≤ 100; omega, by show _ ≤ 600; omega⟩) hP hD hS hA (fun _ => fQ_ad) (fun q H locs hI hP hD hS => ?_)
                                        have h9 : fFind σ (nI 0) (nI 0) (nI 0) = 3 := (by rw [fFind_in (by decide) (by decide), fAsk_in hn0 (by omega), if_neg hm9])
                                        have h8 : ¬ fFind σ (nI 0) (nI 0) (nI 0) = 0 := by rw [h9]; decide
                                        simp only [if_neg h8] at hI hP hD
                                        have hP : va_P g vwCl (fQ cy x a tr s0 s1 pa q σ n fl tx ln) H := hP
                                        have hD : va_D A (fQ cy x a tr s0 s1 pa q σ n fl tx ln) := hD
                                        refine ti (show an (fFind σ (nI 0) (nI 0) (nI 0)) (nI (findA σ (nI 0) (nI 0) (nI 0))) = (-9999003) from (by rw [an_k h9 (by decide)]; rfl)) ?_
                                        show W _ _ _ _ _ _ _ _ _ _ _ _ _ _ _ (F0 mX 986 ls [.int (-9999003)])
                                        refine lv_ldc hx hb hown (hts _ wd6_2) dL_refuses_986 ?_
                                        refine lv_icmp_ne (tgt := 1022) hx hb dL_refuses_988 (by decide) (fun c_988 => absurd rfl c_988) (fun _ => ?_)
                                        refine lv_aload_n hx hb dL_refuses_991 rfl (lv_at hl 8 rfl) ?_
                                        refine lv_bipush (v := (nI 11)) hx hb dL_refuses_992 (by decide) ?_
                                        refine lv_iconst (v := (nI 0)) hx hb dL_refuses_994 (by decide) ?_
                                        refine lv_iconst (v := (nI 0)) hx hb dL_refuses_995 (by decide) ?_
                                        refine lv_iconst (v := (nI 0)) hx hb dL_refuses_996 (by decide) ?_
                                        refine wr_callS (pre := []) (wc := fQ cy x a tr s0 s1 pa q σ n fl tx ln) (va_runS (As := [.ref (x 0), .int (nI 11), .int (nI 0), .int (nI 0), .int (nI 0)]) (rest := []) ⟨hx, hb, hml, hown, hts⟩ (c_L_call_11 l hfl g cy x a tr s0 s1 pa H.size bd q σ Hh n K fl tx ln (nI 0) (nI 0) (nI 0) hI ) ⟨(cB 5 hts wd9_11 wd5_14 wd9_9 rfl rfl (by decide +kernel) ⟨Nat.le_of_ble_eq_true rfl, Nat.le_of_ble_eq_true rfl⟩), hts _ wd9_10⟩ (ps2 (ws := [] ++ fQ cy x a tr s0 s1 pa q σ n fl tx ln) hK hP hD hS hA hX hY _ nd_suffix at_suffix) rfl rfl hl.1 rfl (lv_room (Nat.le_of_ble_eq_true rfl)) dL_refuses_997 ⟨by show _ ≤ 100; omega, by show _ ≤ 600; omega⟩) hP hD hS hA (fun _ => fQ_ad) (fun q H locs hI hP hD hS => ?_)
                                        have h9 : fAsk σ (nI 0) = 3 := (by rw [fAsk_in hn0 (by omega), if_neg hm9])
                                        have hP : va_P g vwCl (fQ cy x a tr s0 s1 pa q σ n fl tx ln) H := hP
                                        have hD : va_D A (fQ cy x a tr s0 s1 pa q σ n fl tx ln) := hD
                                        refine ti (show an (fAsk σ (nI 0)) (nI (mk (cbe σ (nI 0).toNatClampNeg) 12)) = (-9999003) from (by rw [an_k h9 (by decide)]; rfl)) ?_
                                        show W _ _ _ _ _ _ _ _ _ _ _ _ _ _ _ (F0 mX 1000 ls [.int (-9999003)])
                                        refine lv_ldc hx hb hown (hts _ wd6_2) dL_refuses_1000 ?_
                                        refine lv_icmp_ne (tgt := 1022) hx hb dL_refuses_1002 (by decide) (fun c_1002 => absurd rfl c_1002) (fun _ => ?_)
                                        refine lv_aload_n hx hb dL_refuses_1005 rfl (lv_at hl 8 rfl) ?_
                                        refine lv_iconst (v := (nI 0)) hx hb dL_refuses_1006 (by decide) ?_
                                        refine lv_iconst (v := (nI 0)) hx hb dL_refuses_1007 (by decide) ?_
                                        refine lv_iconst (v := (nI 0)) hx hb dL_refuses_1008 (by decide) ?_
                                        refine lv_iconst (v := (nI 0)) hx hb dL_refuses_1009 (by decide) ?_
                                        refine wr_callS (pre := []) (wc := fQ cy x a tr s0 s1 pa q σ n fl tx ln) (vx_runSW (hh := [(0, 9, 10, 13), (0, 9, 15, 19)]) (As := [.ref (x 0), .int (nI 0), .int (nI 0), .int (nI 0), .int (nI 0)]) (rest := []) ⟨hx, hb, hml, hown, hts⟩ (c_L_ifs l hfl g cy x a tr s0 s1 pa H.size bd q σ Hh n K fl tx ln (nI 0) (nI 0) (nI 0) (nI 0) hI ) (vx_cwSW 5 hts (hl_in wd26_13 wd5_14 wd26_11 wd26_12) rfl rfl rfl (by decide +kernel) ⟨Nat.le_of_ble_eq_true rfl, Nat.le_of_ble_eq_true rfl⟩) (ps2 (ws := [] ++ fQ cy x a tr s0 s1 pa q σ n fl tx ln) hK hP hD hS hA hX hY _ nd_suffix at_suffix) rfl rfl hl.1 rfl (lv_room (Nat.le_of_ble_eq_true rfl)) dL_refuses_1010 ⟨by show _ ≤ 100; omega, by show _ ≤ 600; omega⟩) hP hD hS hA (fun _ => fQ_ad) (fun q H locs hI hP hD hS => ?_)
                                        have h9 : fIff σ (nI 0) (nI 0) (nI 0) (nI 0) = 3 := (by rw [fIff_in (by decide), fFind_in (by decide) (by decide), fAsk_in hn0 (by omega), if_neg hm9])
                                        have hP : va_P g vwCl (fQ cy x a tr s0 s1 pa q σ n fl tx ln) H := hP
                                        have hD : va_D A (fQ cy x a tr s0 s1 pa q σ n fl tx ln) := hD
                                        refine ti (show an (fIff σ (nI 0) (nI 0) (nI 0) (nI 0)) (nI (shr σ (nI 0).toNatClampNeg (nI 0).toNatClampNeg (nI 0).toNatClampNeg (nI 0).toNatClampNeg)) = (-9999003) from (by rw [an_k h9 (by decide)]; rfl)) ?_
                                        show W _ _ _ _ _ _ _ _ _ _ _ _ _ _ _ (F0 mX 1013 ls [.int (-9999003)])
                                        refine lv_ldc hx hb hown (hts _ wd6_2) dL_refuses_1013 ?_
                                        refine lv_icmp_ne (tgt := 1022) hx hb dL_refuses_1015 (by decide) (fun c_1015 => absurd rfl c_1015) (fun _ => ?_)
                                        refine lv_iconst (v := (nI 1)) hx hb dL_refuses_1018 (by decide) ?_
                                        refine lv_goto (tgt := 1023) hx hb dL_refuses_1019 (by decide) ?_
                                        exact W.widen (by omega) (by omega) (wr_z (b := true) q rfl rfl hI hP hS hx hb hr dL_refuses_1023 hlk)
                                  · have c_948 := (nc_nlt (by omega) (by omega) c_948)
                                    refine lv_aload_n hx hb dL_refuses_951 rfl (lv_at hl 8 rfl) ?_
                                    refine lv_iconst (v := (nI 0)) hx hb dL_refuses_952 (by decide) ?_
                                    refine lv_iconst (v := (nI 0)) hx hb dL_refuses_953 (by decide) ?_
                                    refine lv_iconst (v := (nI 5)) hx hb dL_refuses_954 (by decide) ?_
                                    refine lv_iconst (v := (nI 0)) hx hb dL_refuses_955 (by decide) ?_
                                    refine lv_iconst (v := (nI 1)) hx hb dL_refuses_956 (by decide) ?_
                                    refine ti (show (nI 1) = (bI true) from rfl) ?_
                                    refine wr_callS (pre := []) (wc := fQ cy x a tr s0 s1 pa q σ n fl tx ln) (vx_runSW (hh := [(0, 11, 12, 13), (0, 11, 17, 16), (0, 11, 22, 19)]) (As := [.ref (x 0), .int (nI 0), .int (nI 0), .int (nI 5), .int (nI 0), .int (bI true)]) (rest := []) ⟨hx, hb, hml, hown, hts⟩ (c_L_sights l hfl g cy x a tr s0 s1 pa H.size bd q σ Hh n K fl tx ln (nI 0) (nI 0) (nI 5) (nI 0) true hI ) (vx_cwSW 6 hts (hl_in wd25_15 wd5_14 wd25_13 wd25_14) rfl rfl rfl (by decide +kernel) ⟨Nat.le_of_ble_eq_true rfl, Nat.le_of_ble_eq_true rfl⟩) (ps2 (ws := [] ++ fQ cy x a tr s0 s1 pa q σ n fl tx ln) hK hP hD hS hA hX hY _ nd_suffix at_suffix) rfl rfl hl.1 rfl (lv_room (Nat.le_of_ble_eq_true rfl)) dL_refuses_957 ⟨by show _ ≤ 100; omega, by show _ ≤ 600; omega⟩) hP hD hS hA (fun _ => fQ_ad) (fun q H locs hI hP hD hS => ?_)
                                    have h9 : fTell σ (nI 0) (nI 0) (nI 5) (nI 0) = 3 := (by rw [fTell_in (by decide) (by decide) (by decide) (by decide) (by omega), if_pos (Nat.zero_le _), if_pos (by omega)])
                                    have h8 : ¬ fTell σ (nI 0) (nI 0) (nI 5) (nI 0) = 0 := by rw [h9]; decide
                                    simp only [if_neg h8] at hI hP hD
                                    have hP : va_P g vwCl (fQ cy x a tr s0 s1 pa q σ n fl tx ln) H := hP
                                    have hD : va_D A (fQ cy x a tr s0 s1 pa q σ n fl tx ln) := hD
                                    refine ti (show an (fTell σ (nI 0) (nI 0) (nI 5) (nI 0)) (nI (sightA σ (nI 0) (nI 0) (nI 5) (nI 0))) = (-9999003) from (by rw [an_k h9 (by decide)]; rfl)) ?_
                                    show W _ _ _ _ _ _ _ _ _ _ _ _ _ _ _ (F0 mX 960 ls [.int (-9999003)])
                                    refine lv_ldc hx hb hown (hts _ wd6_2) dL_refuses_960 ?_
                                    refine lv_icmp_ne (tgt := 1022) hx hb dL_refuses_962 (by decide) (fun c_962 => absurd rfl c_962) (fun _ => ?_)
                                    refine lv_aload_n hx hb dL_refuses_965 rfl (lv_at hl 8 rfl) ?_
                                    refine lv_iconst (v := (nI 3)) hx hb dL_refuses_966 (by decide) ?_
                                    refine lv_iconst (v := (nI 0)) hx hb dL_refuses_967 (by decide) ?_
                                    refine lv_iconst (v := (nI 5)) hx hb dL_refuses_968 (by decide) ?_
                                    refine lv_iconst (v := (nI 0)) hx hb dL_refuses_969 (by decide) ?_
                                    refine wr_callS (pre := []) (wc := fQ cy x a tr s0 s1 pa q σ n fl tx ln) (va_runS (As := [.ref (x 0), .int (nI 3), .int (nI 0), .int (nI 5), .int (nI 0)]) (rest := []) ⟨hx, hb, hml, hown, hts⟩ (c_L_call_3 l hfl g cy x a tr s0 s1 pa H.size bd q σ Hh n K fl tx ln (nI 0) (nI 5) (nI 0) hI ) ⟨(cB 5 hts wd9_11 wd5_14 wd9_9 rfl rfl (by decide +kernel) ⟨Nat.le_of_ble_eq_true rfl, Nat.le_of_ble_eq_true rfl⟩), hts _ wd9_10⟩ (ps2 (ws := [] ++ fQ cy x a tr s0 s1 pa q σ n fl tx ln) hK hP hD hS hA hX hY _ nd_suffix at_suffix) rfl rfl hl.1 rfl (lv_room (Nat.le_of_ble_eq_true rfl)) dL_refuses_970 ⟨by show _ ≤ 100; omega, by show _ ≤ 600; omega⟩) hP hD hS hA (fun _ => fQ_ad) (fun q H locs hI hP hD hS => ?_)
                                    have hP : va_P g vwCl (fQ cy x a tr s0 s1 pa q σ n fl tx ln) H := hP
                                    have hD : va_D A (fQ cy x a tr s0 s1 pa q σ n fl tx ln) := hD
                                    refine ti (show an (fDog σ (nI 0) (nI 5)) (nI (ndg σ (nI 0).toNatClampNeg (nI 5).toNatClampNeg)) = (nI (if msg σ 0 then 1 else 0)) from (v_dg (w := 5) hn0 (by omega) (by decide))) ?_
                                    show W _ _ _ _ _ _ _ _ _ _ _ _ _ _ _ (F0 mX 973 ls [.int (nI (if msg σ 0 then 1 else 0))])
                                    by_cases hm9 : msg σ 0 = true
                                    · refine ti (show (nI (if msg σ 0 then 1 else 0)) = (nI 1) from (by rw [if_pos hm9])) ?_
                                      refine lv_iconst (v := (nI 1)) hx hb dL_refuses_973 (by decide) ?_
                                      refine lv_icmp_eq (tgt := 1018) hx hb dL_refuses_974 (by decide) (fun c_974 => ?_) (fun c_974 => ?_)
                                      · have c_974 := (nc_eq9 (by omega) (by omega) c_974)
                                        refine lv_iconst (v := (nI 1)) hx hb dL_refuses_1018 (by decide) ?_
                                        refine lv_goto (tgt := 1023) hx hb dL_refuses_1019 (by decide) ?_
                                        exact W.widen (by omega) (by omega) (wr_z (b := true) q rfl rfl hI hP hS hx hb hr dL_refuses_1023 hlk)
                                      · have c_974 := (nc_ne9 (by omega) (by omega) c_974)
                                        omega
                                    · refine ti (show (nI (if msg σ 0 then 1 else 0)) = (nI 0) from (by rw [if_neg hm9])) ?_
                                      refine lv_iconst (v := (nI 1)) hx hb dL_refuses_973 (by decide) ?_
                                      refine lv_icmp_eq (tgt := 1018) hx hb dL_refuses_974 (by decide) (fun c_974 => ?_) (fun c_974 => ?_)
                                      · have c_974 := (nc_eq9 (by omega) (by omega) c_974)
                                        omega
                                      · have c_974 := (nc_ne9 (by omega) (by omega) c_974)
                                        refine lv_aload_n hx hb dL_refuses_977 rfl (lv_at hl 8 rfl) ?_
                                        refine lv_bipush (v := (nI 7)) hx hb dL_refuses_978 (by decide) ?_
                                        refine lv_iconst (v := (nI 0)) hx hb dL_refuses_980 (by decide) ?_
                                        refine lv_iconst (v := (nI 0)) hx hb dL_refuses_981 (by decide) ?_
                                        refine lv_iconst (v := (nI 0)) hx hb dL_refuses_982 (by decide) ?_
                                        refine wr_callS (pre := []) (wc := fQ cy x a tr s0 s1 pa q σ n fl tx ln) (va_runS (As := [.ref (x 0), .int (nI 7), .int (nI 0), .int (nI 0), .int (nI 0)]) (rest := []) ⟨hx, hb, hml, hown, hts⟩ (c_L_call_7 l hfl g cy x a tr s0 s1 pa H.size bd q σ Hh n K fl tx ln (nI 0) (nI 0) (nI 0) hI ) ⟨(cB 5 hts wd9_11 wd5_14 wd9_9 rfl rfl (by decide +kernel) ⟨Nat.le_of_ble_eq_true rfl, Nat.le_of_ble_eq_true rfl⟩), hts _ wd9_10⟩ (ps2 (ws := [] ++ fQ cy x a tr s0 s1 pa q σ n fl tx ln) hK hP hD hS hA hX hY _ nd_suffix at_suffix) rfl rfl hl.1 rfl (lv_room (Nat.le_of_ble_eq_true rfl)) dL_refuses_983 ⟨by show _ ≤ 100; omega, by show _ ≤ 600; omega⟩) hP hD hS hA (fun _ => fQ_ad) (fun q H locs hI hP hD hS => ?_)
                                        have h9 : fFind σ (nI 0) (nI 0) (nI 0) = 3 := (by rw [fFind_in (by decide) (by decide), fAsk_in hn0 (by omega), if_neg hm9])
                                        have h8 : ¬ fFind σ (nI 0) (nI 0) (nI 0) = 0 := by rw [h9]; decide
                                        simp only [if_neg h8] at hI hP hD
                                        have hP : va_P g vwCl (fQ cy x a tr s0 s1 pa q σ n fl tx ln) H := hP
                                        have hD : va_D A (fQ cy x a tr s0 s1 pa q σ n fl tx ln) := hD
                                        refine ti (show an (fFind σ (nI 0) (nI 0) (nI 0)) (nI (findA σ (nI 0) (nI 0) (nI 0))) = (-9999003) from (by rw [an_k h9 (by decide)]; rfl)) ?_
                                        show W _ _ _ _ _ _ _ _ _ _ _ _ _ _ _ (F0 mX 986 ls [.int (-9999003)])
                                        refine lv_ldc hx hb hown (hts _ wd6_2) dL_refuses_986 ?_
                                        refine lv_icmp_ne (tgt := 1022) hx hb dL_refuses_988 (by decide) (fun c_988 => absurd rfl c_988) (fun _ => ?_)
                                        refine lv_aload_n hx hb dL_refuses_991 rfl (lv_at hl 8 rfl) ?_
                                        refine lv_bipush (v := (nI 11)) hx hb dL_refuses_992 (by decide) ?_
                                        refine lv_iconst (v := (nI 0)) hx hb dL_refuses_994 (by decide) ?_
                                        refine lv_iconst (v := (nI 0)) hx hb dL_refuses_995 (by decide) ?_
                                        refine lv_iconst (v := (nI 0)) hx hb dL_refuses_996 (by decide) ?_
                                        refine wr_callS (pre := []) (wc := fQ cy x a tr s0 s1 pa q σ n fl tx ln) (va_runS (As := [.ref (x 0), .int (nI 11), .int (nI 0), .int (nI 0), .int (nI 0)]) (rest := []) ⟨hx, hb, hml, hown, hts⟩ (c_L_call_11 l hfl g cy x a tr s0 s1 pa H.size bd q σ Hh n K fl tx ln (nI 0) (nI 0) (nI 0) hI ) ⟨(cB 5 hts wd9_11 wd5_14 wd9_9 rfl rfl (by decide +kernel) ⟨Nat.le_of_ble_eq_true rfl, Nat.le_of_ble_eq_true rfl⟩), hts _ wd9_10⟩ (ps2 (ws := [] ++ fQ cy x a tr s0 s1 pa q σ n fl tx ln) hK hP hD hS hA hX hY _ nd_suffix at_suffix) rfl rfl hl.1 rfl (lv_room (Nat.le_of_ble_eq_true rfl)) dL_refuses_997 ⟨by show _ ≤ 100; omega, by show _ ≤ 600; omega⟩) hP hD hS hA (fun _ => fQ_ad) (fun q H locs hI hP hD hS => ?_)
                                        have h9 : fAsk σ (nI 0) = 3 := (by rw [fAsk_in hn0 (by omega), if_neg hm9])
                                        have hP : va_P g vwCl (fQ cy x a tr s0 s1 pa q σ n fl tx ln) H := hP
                                        have hD : va_D A (fQ cy x a tr s0 s1 pa q σ n fl tx ln) := hD
                                        refine ti (show an (fAsk σ (nI 0)) (nI (mk (cbe σ (nI 0).toNatClampNeg) 12)) = (-9999003) from (by rw [an_k h9 (by decide)]; rfl)) ?_
                                        show W _ _ _ _ _ _ _ _ _ _ _ _ _ _ _ (F0 mX 1000 ls [.int (-9999003)])
                                        refine lv_ldc hx hb hown (hts _ wd6_2) dL_refuses_1000 ?_
                                        refine lv_icmp_ne (tgt := 1022) hx hb dL_refuses_1002 (by decide) (fun c_1002 => absurd rfl c_1002) (fun _ => ?_)
                                        refine lv_aload_n hx hb dL_refuses_1005 rfl (lv_at hl 8 rfl) ?_
                                        refine lv_iconst (v := (nI 0)) hx hb dL_refuses_1006 (by decide) ?_
                                        refine lv_iconst (v := (nI 0)) hx hb dL_refuses_1007 (by decide) ?_
                                        refine lv_iconst (v := (nI 0)) hx hb dL_refuses_1008 (by decide) ?_
                                        refine lv_iconst (v := (nI 0)) hx hb dL_refuses_1009 (by decide) ?_
                                        refine wr_callS (pre := []) (wc := fQ cy x a tr s0 s1 pa q σ n fl tx ln) (vx_runSW (hh := [(0, 9, 10, 13), (0, 9, 15, 19)]) (As := [.ref (x 0), .int (nI 0), .int (nI 0), .int (nI 0), .int (nI 0)]) (rest := []) ⟨hx, hb, hml, hown, hts⟩ (c_L_ifs l hfl g cy x a tr s0 s1 pa H.size bd q σ Hh n K fl tx ln (nI 0) (nI 0) (nI 0) (nI 0) hI ) (vx_cwSW 5 hts (hl_in wd26_13 wd5_14 wd26_11 wd26_12) rfl rfl rfl (by decide +kernel) ⟨Nat.le_of_ble_eq_true rfl, Nat.le_of_ble_eq_true rfl⟩) (ps2 (ws := [] ++ fQ cy x a tr s0 s1 pa q σ n fl tx ln) hK hP hD hS hA hX hY _ nd_suffix at_suffix) rfl rfl hl.1 rfl (lv_room (Nat.le_of_ble_eq_true rfl)) dL_refuses_1010 ⟨by show _ ≤ 100; omega, by show _ ≤ 600; omega⟩) hP hD hS hA (fun _ => fQ_ad) (fun q H locs hI hP hD hS => ?_)
                                        have h9 : fIff σ (nI 0) (nI 0) (nI 0) (nI 0) = 3 := (by rw [fIff_in (by decide), fFind_in (by decide) (by decide), fAsk_in hn0 (by omega), if_neg hm9])
                                        have hP : va_P g vwCl (fQ cy x a tr s0 s1 pa q σ n fl tx ln) H := hP
                                        have hD : va_D A (fQ cy x a tr s0 s1 pa q σ n fl tx ln) := hD
                                        refine ti (show an (fIff σ (nI 0) (nI 0) (nI 0) (nI 0)) (nI (shr σ (nI 0).toNatClampNeg (nI 0).toNatClampNeg (nI 0).toNatClampNeg (nI 0).toNatClampNeg)) = (-9999003) from (by rw [an_k h9 (by decide)]; rfl)) ?_
                                        show W _ _ _ _ _ _ _ _ _ _ _ _ _ _ _ (F0 mX 1013 ls [.int (-9999003)])
                                        refine lv_ldc hx hb hown (hts _ wd6_2) dL_refuses_1013 ?_
                                        refine lv_icmp_ne (tgt := 1022) hx hb dL_refuses_1015 (by decide) (fun c_1015 => absurd rfl c_1015) (fun _ => ?_)
                                        refine lv_iconst (v := (nI 1)) hx hb dL_refuses_1018 (by decide) ?_
                                        refine lv_goto (tgt := 1023) hx hb dL_refuses_1019 (by decide) ?_
                                        exact W.widen (by omega) (by omega) (wr_z (b := true) q rfl rfl hI hP hS hx hb hr dL_refuses_1023 hlk)
                                · have c_923 := (nz_ne c_923 (by omega))
                                  refine lv_aload_n hx hb dL_refuses_926 rfl (lv_at hl 8 rfl) ?_
                                  refine lv_iconst (v := (nI 4)) hx hb dL_refuses_927 (by decide) ?_
                                  refine lv_iconst (v := (nI 0)) hx hb dL_refuses_928 (by decide) ?_
                                  refine lv_bipush (v := (nI 9)) hx hb dL_refuses_929 (by decide) ?_
                                  refine lv_iload_n hx hb dL_refuses_931 rfl (lv_at hl 9 rfl) ?_
                                  refine lv_bipush (v := (nI 9)) hx hb dL_refuses_932 (by decide) ?_
                                  refine lv_irem hx hb dL_refuses_934 (nI_ne0 (by omega) (by omega)) ?_
                                  refine ti (pk_rem (a := v) (d := 9) (by omega) (by omega) (by omega)) ?_
                                  refine lv_iadd hx hb dL_refuses_935 ?_
                                  refine ti (nI_add 9 (v % 9)) ?_
                                  refine lv_iconst (v := (nI 0)) hx hb dL_refuses_936 (by decide) ?_
                                  refine wr_callS (pre := []) (wc := fQ cy x a tr s0 s1 pa q σ n fl tx ln) (va_runS (As := [.ref (x 0), .int (nI 4), .int (nI 0), .int (nI (9 + (v % 9))), .int (nI 0)]) (rest := []) ⟨hx, hb, hml, hown, hts⟩ (c_L_call_4 l hfl g cy x a tr s0 s1 pa H.size bd q σ Hh n K fl tx ln (nI 0) (nI (9 + (v % 9))) (nI 0) hI ) ⟨(cB 5 hts wd9_11 wd5_14 wd9_9 rfl rfl (by decide +kernel) ⟨Nat.le_of_ble_eq_true rfl, Nat.le_of_ble_eq_true rfl⟩), hts _ wd9_10⟩ (ps2 (ws := [] ++ fQ cy x a tr s0 s1 pa q σ n fl tx ln) hK hP hD hS hA hX hY _ nd_suffix at_suffix) rfl rfl hl.1 rfl (lv_room (Nat.le_of_ble_eq_true rfl)) dL_refuses_937 ⟨by show _ ≤ 100; omega, by show _ ≤ 600; omega⟩) hP hD hS hA (fun _ => fQ_ad) (fun q H locs hI hP hD hS => ?_)
                                  have h9 : fSig σ (nI 0) (nI (9 + (v % 9))) = 2 := (fSig_2 hn1 (by omega) (by omega) (by omega))
                                  have hP : va_P g vwCl (fQ cy x a tr s0 s1 pa q σ n fl tx ln) H := hP
                                  have hD : va_D A (fQ cy x a tr s0 s1 pa q σ n fl tx ln) := hD
                                  refine ti (show an (fSig σ (nI 0) (nI (9 + (v % 9)))) (nI (nsg σ (nI 0).toNatClampNeg (nI (9 + (v % 9))).toNatClampNeg)) = (-9999002) from (by rw [an_k h9 (by decide)]; rfl)) ?_
                                  show W _ _ _ _ _ _ _ _ _ _ _ _ _ _ _ (F0 mX 940 ls [.int (-9999002)])
                                  refine lv_ldc hx hb hown (hts _ wd6_1) dL_refuses_940 ?_
                                  refine lv_icmp_ne (tgt := 1022) hx hb dL_refuses_942 (by decide) (fun c_942 => absurd rfl c_942) (fun _ => ?_)
                                  refine lv_iload_n hx hb dL_refuses_945 rfl (lv_at hl 6 rfl) ?_
                                  refine lv_bipush (v := (nI 20)) hx hb dL_refuses_946 (by decide) ?_
                                  refine lv_icmp_lt (tgt := 965) hx hb dL_refuses_948 (by decide) (fun c_948 => ?_) (fun c_948 => ?_)
                                  · have c_948 := (nc_lt (by omega) (by omega) c_948)
                                    refine lv_aload_n hx hb dL_refuses_965 rfl (lv_at hl 8 rfl) ?_
                                    refine lv_iconst (v := (nI 3)) hx hb dL_refuses_966 (by decide) ?_
                                    refine lv_iconst (v := (nI 0)) hx hb dL_refuses_967 (by decide) ?_
                                    refine lv_iconst (v := (nI 5)) hx hb dL_refuses_968 (by decide) ?_
                                    refine lv_iconst (v := (nI 0)) hx hb dL_refuses_969 (by decide) ?_
                                    refine wr_callS (pre := []) (wc := fQ cy x a tr s0 s1 pa q σ n fl tx ln) (va_runS (As := [.ref (x 0), .int (nI 3), .int (nI 0), .int (nI 5), .int (nI 0)]) (rest := []) ⟨hx, hb, hml, hown, hts⟩ (c_L_call_3 l hfl g cy x a tr s0 s1 pa H.size bd q σ Hh n K fl tx ln (nI 0) (nI 5) (nI 0) hI ) ⟨(cB 5 hts wd9_11 wd5_14 wd9_9 rfl rfl (by decide +kernel) ⟨Nat.le_of_ble_eq_true rfl, Nat.le_of_ble_eq_true rfl⟩), hts _ wd9_10⟩ (ps2 (ws := [] ++ fQ cy x a tr s0 s1 pa q σ n fl tx ln) hK hP hD hS hA hX hY _ nd_suffix at_suffix) rfl rfl hl.1 rfl (lv_room (Nat.le_of_ble_eq_true rfl)) dL_refuses_970 ⟨by show _ ≤ 100; omega, by show _ ≤ 600; omega⟩) hP hD hS hA (fun _ => fQ_ad) (fun q H locs hI hP hD hS => ?_)
                                    have hP : va_P g vwCl (fQ cy x a tr s0 s1 pa q σ n fl tx ln) H := hP
                                    have hD : va_D A (fQ cy x a tr s0 s1 pa q σ n fl tx ln) := hD
                                    refine ti (show an (fDog σ (nI 0) (nI 5)) (nI (ndg σ (nI 0).toNatClampNeg (nI 5).toNatClampNeg)) = (nI (if msg σ 0 then 1 else 0)) from (v_dg (w := 5) hn0 (by omega) (by decide))) ?_
                                    show W _ _ _ _ _ _ _ _ _ _ _ _ _ _ _ (F0 mX 973 ls [.int (nI (if msg σ 0 then 1 else 0))])
                                    by_cases hm9 : msg σ 0 = true
                                    · refine ti (show (nI (if msg σ 0 then 1 else 0)) = (nI 1) from (by rw [if_pos hm9])) ?_
                                      refine lv_iconst (v := (nI 1)) hx hb dL_refuses_973 (by decide) ?_
                                      refine lv_icmp_eq (tgt := 1018) hx hb dL_refuses_974 (by decide) (fun c_974 => ?_) (fun c_974 => ?_)
                                      · have c_974 := (nc_eq9 (by omega) (by omega) c_974)
                                        refine lv_iconst (v := (nI 1)) hx hb dL_refuses_1018 (by decide) ?_
                                        refine lv_goto (tgt := 1023) hx hb dL_refuses_1019 (by decide) ?_
                                        exact W.widen (by omega) (by omega) (wr_z (b := true) q rfl rfl hI hP hS hx hb hr dL_refuses_1023 hlk)
                                      · have c_974 := (nc_ne9 (by omega) (by omega) c_974)
                                        omega
                                    · refine ti (show (nI (if msg σ 0 then 1 else 0)) = (nI 0) from (by rw [if_neg hm9])) ?_
                                      refine lv_iconst (v := (nI 1)) hx hb dL_refuses_973 (by decide) ?_
                                      refine lv_icmp_eq (tgt := 1018) hx hb dL_refuses_974 (by decide) (fun c_974 => ?_) (fun c_974 => ?_)
                                      · have c_974 := (nc_eq9 (by omega) (by omega) c_974)
                                        omega
                                      · have c_974 := (nc_ne9 (by omega) (by omega) c_974)
                                        refine lv_aload_n hx hb dL_refuses_977 rfl (lv_at hl 8 rfl) ?_
                                        refine lv_bipush (v := (nI 7)) hx hb dL_refuses_978 (by decide) ?_
                                        refine lv_iconst (v := (nI 0)) hx hb dL_refuses_980 (by decide) ?_
                                        refine lv_iconst (v := (nI 0)) hx hb dL_refuses_981 (by decide) ?_
                                        refine lv_iconst (v := (nI 0)) hx hb dL_refuses_982 (by decide) ?_
                                        refine wr_callS (pre := []) (wc := fQ cy x a tr s0 s1 pa q σ n fl tx ln) (va_runS (As := [.ref (x 0), .int (nI 7), .int (nI 0), .int (nI 0), .int (nI 0)]) (rest := []) ⟨hx, hb, hml, hown, hts⟩ (c_L_call_7 l hfl g cy x a tr s0 s1 pa H.size bd q σ Hh n K fl tx ln (nI 0) (nI 0) (nI 0) hI ) ⟨(cB 5 hts wd9_11 wd5_14 wd9_9 rfl rfl (by decide +kernel) ⟨Nat.le_of_ble_eq_true rfl, Nat.le_of_ble_eq_true rfl⟩), hts _ wd9_10⟩ (ps2 (ws := [] ++ fQ cy x a tr s0 s1 pa q σ n fl tx ln) hK hP hD hS hA hX hY _ nd_suffix at_suffix) rfl rfl hl.1 rfl (lv_room (Nat.le_of_ble_eq_true rfl)) dL_refuses_983 ⟨by show _ ≤ 100; omega, by show _ ≤ 600; omega⟩) hP hD hS hA (fun _ => fQ_ad) (fun q H locs hI hP hD hS => ?_)
                                        have h9 : fFind σ (nI 0) (nI 0) (nI 0) = 3 := (by rw [fFind_in (by decide) (by decide), fAsk_in hn0 (by omega), if_neg hm9])
                                        have h8 : ¬ fFind σ (nI 0) (nI 0) (nI 0) = 0 := by rw [h9]; decide
                                        simp only [if_neg h8] at hI hP hD
                                        have hP : va_P g vwCl (fQ cy x a tr s0 s1 pa q σ n fl tx ln) H := hP
                                        have hD : va_D A (fQ cy x a tr s0 s1 pa q σ n fl tx ln) := hD
                                        refine ti (show an (fFind σ (nI 0) (nI 0) (nI 0)) (nI (findA σ (nI 0) (nI 0) (nI 0))) = (-9999003) from (by rw [an_k h9 (by decide)]; rfl)) ?_
                                        show W _ _ _ _ _ _ _ _ _ _ _ _ _ _ _ (F0 mX 986 ls [.int (-9999003)])
                                        refine lv_ldc hx hb hown (hts _ wd6_2) dL_refuses_986 ?_
                                        refine lv_icmp_ne (tgt := 1022) hx hb dL_refuses_988 (by decide) (fun c_988 => absurd rfl c_988) (fun _ => ?_)
                                        refine lv_aload_n hx hb dL_refuses_991 rfl (lv_at hl 8 rfl) ?_
                                        refine lv_bipush (v := (nI 11)) hx hb dL_refuses_992 (by decide) ?_
                                        refine lv_iconst (v := (nI 0)) hx hb dL_refuses_994 (by decide) ?_
                                        refine lv_iconst (v := (nI 0)) hx hb dL_refuses_995 (by decide) ?_
                                        refine lv_iconst (v := (nI 0)) hx hb dL_refuses_996 (by decide) ?_
                                        refine wr_callS (pre := []) (wc := fQ cy x a tr s0 s1 pa q σ n fl tx ln) (va_runS (As := [.ref (x 0), .int (nI 11), .int (nI 0), .int (nI 0), .int (nI 0)]) (rest := []) ⟨hx, hb, hml, hown, hts⟩ (c_L_call_11 l hfl g cy x a tr s0 s1 pa H.size bd q σ Hh n K fl tx ln (nI 0) (nI 0) (nI 0) hI ) ⟨(cB 5 hts wd9_11 wd5_14 wd9_9 rfl rfl (by decide +kernel) ⟨Nat.le_of_ble_eq_true rfl, Nat.le_of_ble_eq_true rfl⟩), hts _ wd9_10⟩ (ps2 (ws := [] ++ fQ cy x a tr s0 s1 pa q σ n fl tx ln) hK hP hD hS hA hX hY _ nd_suffix at_suffix) rfl rfl hl.1 rfl (lv_room (Nat.le_of_ble_eq_true rfl)) dL_refuses_997 ⟨by show _ ≤ 100; omega, by show _ ≤ 600; omega⟩) hP hD hS hA (fun _ => fQ_ad) (fun q H locs hI hP hD hS => ?_)
                                        have h9 : fAsk σ (nI 0) = 3 := (by rw [fAsk_in hn0 (by omega), if_neg hm9])
                                        have hP : va_P g vwCl (fQ cy x a tr s0 s1 pa q σ n fl tx ln) H := hP
                                        have hD : va_D A (fQ cy x a tr s0 s1 pa q σ n fl tx ln) := hD
                                        refine ti (show an (fAsk σ (nI 0)) (nI (mk (cbe σ (nI 0).toNatClampNeg) 12)) = (-9999003) from (by rw [an_k h9 (by decide)]; rfl)) ?_
                                        show W _ _ _ _ _ _ _ _ _ _ _ _ _ _ _ (F0 mX 1000 ls [.int (-9999003)])
                                        refine lv_ldc hx hb hown (hts _ wd6_2) dL_refuses_1000 ?_
                                        refine lv_icmp_ne (tgt := 1022) hx hb dL_refuses_1002 (by decide) (fun c_1002 => absurd rfl c_1002) (fun _ => ?_)
                                        refine lv_aload_n hx hb dL_refuses_1005 rfl (lv_at hl 8 rfl) ?_
                                        refine lv_iconst (v := (nI 0)) hx hb dL_refuses_1006 (by decide) ?_
                                        refine lv_iconst (v := (nI 0)) hx hb dL_refuses_1007 (by decide) ?_
                                        refine lv_iconst (v := (nI 0)) hx hb dL_refuses_1008 (by decide) ?_
                                        refine lv_iconst (v := (nI 0)) hx hb dL_refuses_1009 (by decide) ?_
                                        refine wr_callS (pre := []) (wc := fQ cy x a tr s0 s1 pa q σ n fl tx ln) (vx_runSW (hh := [(0, 9, 10, 13), (0, 9, 15, 19)]) (As := [.ref (x 0), .int (nI 0), .int (nI 0), .int (nI 0), .int (nI 0)]) (rest := []) ⟨hx, hb, hml, hown, hts⟩ (c_L_ifs l hfl g cy x a tr s0 s1 pa H.size bd q σ Hh n K fl tx ln (nI 0) (nI 0) (nI 0) (nI 0) hI ) (vx_cwSW 5 hts (hl_in wd26_13 wd5_14 wd26_11 wd26_12) rfl rfl rfl (by decide +kernel) ⟨Nat.le_of_ble_eq_true rfl, Nat.le_of_ble_eq_true rfl⟩) (ps2 (ws := [] ++ fQ cy x a tr s0 s1 pa q σ n fl tx ln) hK hP hD hS hA hX hY _ nd_suffix at_suffix) rfl rfl hl.1 rfl (lv_room (Nat.le_of_ble_eq_true rfl)) dL_refuses_1010 ⟨by show _ ≤ 100; omega, by show _ ≤ 600; omega⟩) hP hD hS hA (fun _ => fQ_ad) (fun q H locs hI hP hD hS => ?_)
                                        have h9 : fIff σ (nI 0) (nI 0) (nI 0) (nI 0) = 3 := (by rw [fIff_in (by decide), fFind_in (by decide) (by decide), fAsk_in hn0 (by omega), if_neg hm9])
                                        have hP : va_P g vwCl (fQ cy x a tr s0 s1 pa q σ n fl tx ln) H := hP
                                        have hD : va_D A (fQ cy x a tr s0 s1 pa q σ n fl tx ln) := hD
                                        refine ti (show an (fIff σ (nI 0) (nI 0) (nI 0) (nI 0)) (nI (shr σ (nI 0).toNatClampNeg (nI 0).toNatClampNeg (nI 0).toNatClampNeg (nI 0).toNatClampNeg)) = (-9999003) from (by rw [an_k h9 (by decide)]; rfl)) ?_
                                        show W _ _ _ _ _ _ _ _ _ _ _ _ _ _ _ (F0 mX 1013 ls [.int (-9999003)])
                                        refine lv_ldc hx hb hown (hts _ wd6_2) dL_refuses_1013 ?_
                                        refine lv_icmp_ne (tgt := 1022) hx hb dL_refuses_1015 (by decide) (fun c_1015 => absurd rfl c_1015) (fun _ => ?_)
                                        refine lv_iconst (v := (nI 1)) hx hb dL_refuses_1018 (by decide) ?_
                                        refine lv_goto (tgt := 1023) hx hb dL_refuses_1019 (by decide) ?_
                                        exact W.widen (by omega) (by omega) (wr_z (b := true) q rfl rfl hI hP hS hx hb hr dL_refuses_1023 hlk)
                                  · have c_948 := (nc_nlt (by omega) (by omega) c_948)
                                    refine lv_aload_n hx hb dL_refuses_951 rfl (lv_at hl 8 rfl) ?_
                                    refine lv_iconst (v := (nI 0)) hx hb dL_refuses_952 (by decide) ?_
                                    refine lv_iconst (v := (nI 0)) hx hb dL_refuses_953 (by decide) ?_
                                    refine lv_iconst (v := (nI 5)) hx hb dL_refuses_954 (by decide) ?_
                                    refine lv_iconst (v := (nI 0)) hx hb dL_refuses_955 (by decide) ?_
                                    refine lv_iconst (v := (nI 1)) hx hb dL_refuses_956 (by decide) ?_
                                    refine ti (show (nI 1) = (bI true) from rfl) ?_
                                    refine wr_callS (pre := []) (wc := fQ cy x a tr s0 s1 pa q σ n fl tx ln) (vx_runSW (hh := [(0, 11, 12, 13), (0, 11, 17, 16), (0, 11, 22, 19)]) (As := [.ref (x 0), .int (nI 0), .int (nI 0), .int (nI 5), .int (nI 0), .int (bI true)]) (rest := []) ⟨hx, hb, hml, hown, hts⟩ (c_L_sights l hfl g cy x a tr s0 s1 pa H.size bd q σ Hh n K fl tx ln (nI 0) (nI 0) (nI 5) (nI 0) true hI ) (vx_cwSW 6 hts (hl_in wd25_15 wd5_14 wd25_13 wd25_14) rfl rfl rfl (by decide +kernel) ⟨Nat.le_of_ble_eq_true rfl, Nat.le_of_ble_eq_true rfl⟩) (ps2 (ws := [] ++ fQ cy x a tr s0 s1 pa q σ n fl tx ln) hK hP hD hS hA hX hY _ nd_suffix at_suffix) rfl rfl hl.1 rfl (lv_room (Nat.le_of_ble_eq_true rfl)) dL_refuses_957 ⟨by show _ ≤ 100; omega, by show _ ≤ 600; omega⟩) hP hD hS hA (fun _ => fQ_ad) (fun q H locs hI hP hD hS => ?_)
                                    have h9 : fTell σ (nI 0) (nI 0) (nI 5) (nI 0) = 3 := (by rw [fTell_in (by decide) (by decide) (by decide) (by decide) (by omega), if_pos (Nat.zero_le _), if_pos (by omega)])
                                    have h8 : ¬ fTell σ (nI 0) (nI 0) (nI 5) (nI 0) = 0 := by rw [h9]; decide
                                    simp only [if_neg h8] at hI hP hD
                                    have hP : va_P g vwCl (fQ cy x a tr s0 s1 pa q σ n fl tx ln) H := hP
                                    have hD : va_D A (fQ cy x a tr s0 s1 pa q σ n fl tx ln) := hD
                                    refine ti (show an (fTell σ (nI 0) (nI 0) (nI 5) (nI 0)) (nI (sightA σ (nI 0) (nI 0) (nI 5) (nI 0))) = (-9999003) from (by rw [an_k h9 (by decide)]; rfl)) ?_
                                    show W _ _ _ _ _ _ _ _ _ _ _ _ _ _ _ (F0 mX 960 ls [.int (-9999003)])
                                    refine lv_ldc hx hb hown (hts _ wd6_2) dL_refuses_960 ?_
                                    refine lv_icmp_ne (tgt := 1022) hx hb dL_refuses_962 (by decide) (fun c_962 => absurd rfl c_962) (fun _ => ?_)
                                    refine lv_aload_n hx hb dL_refuses_965 rfl (lv_at hl 8 rfl) ?_
                                    refine lv_iconst (v := (nI 3)) hx hb dL_refuses_966 (by decide) ?_
                                    refine lv_iconst (v := (nI 0)) hx hb dL_refuses_967 (by decide) ?_
                                    refine lv_iconst (v := (nI 5)) hx hb dL_refuses_968 (by decide) ?_
                                    refine lv_iconst (v := (nI 0)) hx hb dL_refuses_969 (by decide) ?_
                                    refine wr_callS (pre := []) (wc := fQ cy x a tr s0 s1 pa q σ n fl tx ln) (va_runS (As := [.ref (x 0), .int (nI 3), .int (nI 0), .int (nI 5), .int (nI 0)]) (rest := []) ⟨hx, hb, hml, hown, hts⟩ (c_L_call_3 l hfl g cy x a tr s0 s1 pa H.size bd q σ Hh n K fl tx ln (nI 0) (nI 5) (nI 0) hI ) ⟨(cB 5 hts wd9_11 wd5_14 wd9_9 rfl rfl (by decide +kernel) ⟨Nat.le_of_ble_eq_true rfl, Nat.le_of_ble_eq_true rfl⟩), hts _ wd9_10⟩ (ps2 (ws := [] ++ fQ cy x a tr s0 s1 pa q σ n fl tx ln) hK hP hD hS hA hX hY _ nd_suffix at_suffix) rfl rfl hl.1 rfl (lv_room (Nat.le_of_ble_eq_true rfl)) dL_refuses_970 ⟨by show _ ≤ 100; omega, by show _ ≤ 600; omega⟩) hP hD hS hA (fun _ => fQ_ad) (fun q H locs hI hP hD hS => ?_)
                                    have hP : va_P g vwCl (fQ cy x a tr s0 s1 pa q σ n fl tx ln) H := hP
                                    have hD : va_D A (fQ cy x a tr s0 s1 pa q σ n fl tx ln) := hD
                                    refine ti (show an (fDog σ (nI 0) (nI 5)) (nI (ndg σ (nI 0).toNatClampNeg (nI 5).toNatClampNeg)) = (nI (if msg σ 0 then 1 else 0)) from (v_dg (w := 5) hn0 (by omega) (by decide))) ?_
                                    show W _ _ _ _ _ _ _ _ _ _ _ _ _ _ _ (F0 mX 973 ls [.int (nI (if msg σ 0 then 1 else 0))])
                                    by_cases hm9 : msg σ 0 = true
                                    · refine ti (show (nI (if msg σ 0 then 1 else 0)) = (nI 1) from (by rw [if_pos hm9])) ?_
                                      refine lv_iconst (v := (nI 1)) hx hb dL_refuses_973 (by decide) ?_
                                      refine lv_icmp_eq (tgt := 1018) hx hb dL_refuses_974 (by decide) (fun c_974 => ?_) (fun c_974 => ?_)
                                      · have c_974 := (nc_eq9 (by omega) (by omega) c_974)
                                        refine lv_iconst (v := (nI 1)) hx hb dL_refuses_1018 (by decide) ?_
                                        refine lv_goto (tgt := 1023) hx hb dL_refuses_1019 (by decide) ?_
                                        exact W.widen (by omega) (by omega) (wr_z (b := true) q rfl rfl hI hP hS hx hb hr dL_refuses_1023 hlk)
                                      · have c_974 := (nc_ne9 (by omega) (by omega) c_974)
                                        omega
                                    · refine ti (show (nI (if msg σ 0 then 1 else 0)) = (nI 0) from (by rw [if_neg hm9])) ?_
                                      refine lv_iconst (v := (nI 1)) hx hb dL_refuses_973 (by decide) ?_
                                      refine lv_icmp_eq (tgt := 1018) hx hb dL_refuses_974 (by decide) (fun c_974 => ?_) (fun c_974 => ?_)
                                      · have c_974 := (nc_eq9 (by omega) (by omega) c_974)
                                        omega
                                      · have c_974 := (nc_ne9 (by omega) (by omega) c_974)
                                        refine lv_aload_n hx hb dL_refuses_977 rfl (lv_at hl 8 rfl) ?_
                                        refine lv_bipush (v := (nI 7)) hx hb dL_refuses_978 (by decide) ?_
                                        refine lv_iconst (v := (nI 0)) hx hb dL_refuses_980 (by decide) ?_
                                        refine lv_iconst (v := (nI 0)) hx hb dL_refuses_981 (by decide) ?_
                                        refine lv_iconst (v := (nI 0)) hx hb dL_refuses_982 (by decide) ?_
                                        refine wr_callS (pre := []) (wc := fQ cy x a tr s0 s1 pa q σ n fl tx ln) (va_runS (As := [.ref (x 0), .int (nI 7), .int (nI 0), .int (nI 0), .int (nI 0)]) (rest := []) ⟨hx, hb, hml, hown, hts⟩ (c_L_call_7 l hfl g cy x a tr s0 s1 pa H.size bd q σ Hh n K fl tx ln (nI 0) (nI 0) (nI 0) hI ) ⟨(cB 5 hts wd9_11 wd5_14 wd9_9 rfl rfl (by decide +kernel) ⟨Nat.le_of_ble_eq_true rfl, Nat.le_of_ble_eq_true rfl⟩), hts _ wd9_10⟩ (ps2 (ws := [] ++ fQ cy x a tr s0 s1 pa q σ n fl tx ln) hK hP hD hS hA hX hY _ nd_suffix at_suffix) rfl rfl hl.1 rfl (lv_room (Nat.le_of_ble_eq_true rfl)) dL_refuses_983 ⟨by show _ ≤ 100; omega, by show _ ≤ 600; omega⟩) hP hD hS hA (fun _ => fQ_ad) (fun q H locs hI hP hD hS => ?_)
                                        have h9 : fFind σ (nI 0) (nI 0) (nI 0) = 3 := (by rw [fFind_in (by decide) (by decide), fAsk_in hn0 (by omega), if_neg hm9])
                                        have h8 : ¬ fFind σ (nI 0) (nI 0) (nI 0) = 0 := by rw [h9]; decide
                                        simp only [if_neg h8] at hI hP hD
                                        have hP : va_P g vwCl (fQ cy x a tr s0 s1 pa q σ n fl tx ln) H := hP
                                        have hD : va_D A (fQ cy x a tr s0 s1 pa q σ n fl tx ln) := hD
                                        refine ti (show an (fFind σ (nI 0) (nI 0) (nI 0)) (nI (findA σ (nI 0) (nI 0) (nI 0))) = (-9999003) from (by rw [an_k h9 (by decide)]; rfl)) ?_
                                        show W _ _ _ _ _ _ _ _ _ _ _ _ _ _ _ (F0 mX 986 ls [.int (-9999003)])
                                        refine lv_ldc hx hb hown (hts _ wd6_2) dL_refuses_986 ?_
                                        refine lv_icmp_ne (tgt := 1022) hx hb dL_refuses_988 (by decide) (fun c_988 => absurd rfl c_988) (fun _ => ?_)
                                        refine lv_aload_n hx hb dL_refuses_991 rfl (lv_at hl 8 rfl) ?_
                                        refine lv_bipush (v := (nI 11)) hx hb dL_refuses_992 (by decide) ?_
                                        refine lv_iconst (v := (nI 0)) hx hb dL_refuses_994 (by decide) ?_
                                        refine lv_iconst (v := (nI 0)) hx hb dL_refuses_995 (by decide) ?_
                                        refine lv_iconst (v := (nI 0)) hx hb dL_refuses_996 (by decide) ?_
                                        refine wr_callS (pre := []) (wc := fQ cy x a tr s0 s1 pa q σ n fl tx ln) (va_runS (As := [.ref (x 0), .int (nI 11), .int (nI 0), .int (nI 0), .int (nI 0)]) (rest := []) ⟨hx, hb, hml, hown, hts⟩ (c_L_call_11 l hfl g cy x a tr s0 s1 pa H.size bd q σ Hh n K fl tx ln (nI 0) (nI 0) (nI 0) hI ) ⟨(cB 5 hts wd9_11 wd5_14 wd9_9 rfl rfl (by decide +kernel) ⟨Nat.le_of_ble_eq_true rfl, Nat.le_of_ble_eq_true rfl⟩), hts _ wd9_10⟩ (ps2 (ws := [] ++ fQ cy x a tr s0 s1 pa q σ n fl tx ln) hK hP hD hS hA hX hY _ nd_suffix at_suffix) rfl rfl hl.1 rfl (lv_room (Nat.le_of_ble_eq_true rfl)) dL_refuses_997 ⟨by show _ ≤ 100; omega, by show _ ≤ 600; omega⟩) hP hD hS hA (fun _ => fQ_ad) (fun q H locs hI hP hD hS => ?_)
                                        have h9 : fAsk σ (nI 0) = 3 := (by rw [fAsk_in hn0 (by omega), if_neg hm9])
                                        have hP : va_P g vwCl (fQ cy x a tr s0 s1 pa q σ n fl tx ln) H := hP
                                        have hD : va_D A (fQ cy x a tr s0 s1 pa q σ n fl tx ln) := hD
                                        refine ti (show an (fAsk σ (nI 0)) (nI (mk (cbe σ (nI 0).toNatClampNeg) 12)) = (-9999003) from (by rw [an_k h9 (by decide)]; rfl)) ?_
                                        show W _ _ _ _ _ _ _ _ _ _ _ _ _ _ _ (F0 mX 1000 ls [.int (-9999003)])
                                        refine lv_ldc hx hb hown (hts _ wd6_2) dL_refuses_1000 ?_
                                        refine lv_icmp_ne (tgt := 1022) hx hb dL_refuses_1002 (by decide) (fun c_1002 => absurd rfl c_1002) (fun _ => ?_)
                                        refine lv_aload_n hx hb dL_refuses_1005 rfl (lv_at hl 8 rfl) ?_
                                        refine lv_iconst (v := (nI 0)) hx hb dL_refuses_1006 (by decide) ?_
                                        refine lv_iconst (v := (nI 0)) hx hb dL_refuses_1007 (by decide) ?_
                                        refine lv_iconst (v := (nI 0)) hx hb dL_refuses_1008 (by decide) ?_
                                        refine lv_iconst (v := (nI 0)) hx hb dL_refuses_1009 (by decide) ?_
                                        refine wr_callS (pre := []) (wc := fQ cy x a tr s0 s1 pa q σ n fl tx ln) (vx_runSW (hh := [(0, 9, 10, 13), (0, 9, 15, 19)]) (As := [.ref (x 0), .int (nI 0), .int (nI 0), .int (nI 0), .int (nI 0)]) (rest := []) ⟨hx, hb, hml, hown, hts⟩ (c_L_ifs l hfl g cy x a tr s0 s1 pa H.size bd q σ Hh n K fl tx ln (nI 0) (nI 0) (nI 0) (nI 0) hI ) (vx_cwSW 5 hts (hl_in wd26_13 wd5_14 wd26_11 wd26_12) rfl rfl rfl (by decide +kernel) ⟨Nat.le_of_ble_eq_true rfl, Nat.le_of_ble_eq_true rfl⟩) (ps2 (ws := [] ++ fQ cy x a tr s0 s1 pa q σ n fl tx ln) hK hP hD hS hA hX hY _ nd_suffix at_suffix) rfl rfl hl.1 rfl (lv_room (Nat.le_of_ble_eq_true rfl)) dL_refuses_1010 ⟨by show _ ≤ 100; omega, by show _ ≤ 600; omega⟩) hP hD hS hA (fun _ => fQ_ad) (fun q H locs hI hP hD hS => ?_)
                                        have h9 : fIff σ (nI 0) (nI 0) (nI 0) (nI 0) = 3 := (by rw [fIff_in (by decide), fFind_in (by decide) (by decide), fAsk_in hn0 (by omega), if_neg hm9])
                                        have hP : va_P g vwCl (fQ cy x a tr s0 s1 pa q σ n fl tx ln) H := hP
                                        have hD : va_D A (fQ cy x a tr s0 s1 pa q σ n fl tx ln) := hD
                                        refine ti (show an (fIff σ (nI 0) (nI 0) (nI 0) (nI 0)) (nI (shr σ (nI 0).toNatClampNeg (nI 0).toNatClampNeg (nI 0).toNatClampNeg (nI 0).toNatClampNeg)) = (-9999003) from (by rw [an_k h9 (by decide)]; rfl)) ?_
                                        show W _ _ _ _ _ _ _ _ _ _ _ _ _ _ _ (F0 mX 1013 ls [.int (-9999003)])
                                        refine lv_ldc hx hb hown (hts _ wd6_2) dL_refuses_1013 ?_
                                        refine lv_icmp_ne (tgt := 1022) hx hb dL_refuses_1015 (by decide) (fun c_1015 => absurd rfl c_1015) (fun _ => ?_)
                                        refine lv_iconst (v := (nI 1)) hx hb dL_refuses_1018 (by decide) ?_
                                        refine lv_goto (tgt := 1023) hx hb dL_refuses_1019 (by decide) ?_
                                        exact W.widen (by omega) (by omega) (wr_z (b := true) q rfl rfl hI hP hS hx hb hr dL_refuses_1023 hlk)
                            · skip
                              refine lv_iload_n hx hb dL_refuses_724 rfl (lv_at hl 8 rfl) ?_
                              refine lv_iconst (v := (nI 2)) hx hb dL_refuses_725 (by decide) ?_
                              refine lv_irem hx hb dL_refuses_726 (nI_ne0 (by omega) (by omega)) ?_
                              refine ti (pk_rem (a := v) (d := 2) (by omega) (by omega) (by omega)) ?_
                              refine lv_if_ne (tgt := 734) hx hb dL_refuses_727 (by decide) (fun c_727 => ?_) (fun c_727 => ?_)
                              · have c_727 := (nz_ne c_727 (by omega))
                                refine lv_sipush (v := (nI 256)) hx hb dL_refuses_734 (by decide) ?_
                                refine lv_iload_n hx hb dL_refuses_737 rfl (lv_at hl 8 rfl) ?_
                                refine lv_bipush (v := (nI 9)) hx hb dL_refuses_738 (by decide) ?_
                                refine lv_irem hx hb dL_refuses_740 (nI_ne0 (by omega) (by omega)) ?_
                                refine ti (pk_rem (a := v) (d := 9) (by omega) (by omega) (by omega)) ?_
                                refine lv_iadd hx hb dL_refuses_741 ?_
                                refine ti (nI_add 256 (v % 9)) ?_
                                exact jn742 _ (zg_o c_727)
                              · have c_727 := (nz_eq c_727 (by omega))
                                refine lv_iconst (v := (nI NN)) hx hb dL_refuses_730 (by decide) ?_
                                refine lv_goto (tgt := 742) hx hb dL_refuses_731 (by decide) ?_
                                exact jn742 _ (zg_e c_727)
                          · skip
                            refine lv_iload_n hx hb dL_refuses_661 rfl (lv_at hl 8 rfl) ?_
                            refine lv_iconst (v := (nI 2)) hx hb dL_refuses_662 (by decide) ?_
                            refine lv_irem hx hb dL_refuses_663 (nI_ne0 (by omega) (by omega)) ?_
                            refine ti (pk_rem (a := v) (d := 2) (by omega) (by omega) (by omega)) ?_
                            refine lv_if_ne (tgt := 671) hx hb dL_refuses_664 (by decide) (fun c_664 => ?_) (fun c_664 => ?_)
                            · have c_664 := (nz_ne c_664 (by omega))
                              refine lv_bipush (v := (nI 9)) hx hb dL_refuses_671 (by decide) ?_
                              refine lv_iload_n hx hb dL_refuses_673 rfl (lv_at hl 8 rfl) ?_
                              refine lv_bipush (v := (nI 9)) hx hb dL_refuses_674 (by decide) ?_
                              refine lv_irem hx hb dL_refuses_676 (nI_ne0 (by omega) (by omega)) ?_
                              refine ti (pk_rem (a := v) (d := 9) (by omega) (by omega) (by omega)) ?_
                              refine lv_iadd hx hb dL_refuses_677 ?_
                              refine ti (nI_add 9 (v % 9)) ?_
                              exact jn678 _ (zg_o c_664)
                            · have c_664 := (nz_eq c_664 (by omega))
                              refine lv_iconst (v := (nI NN)) hx hb dL_refuses_667 (by decide) ?_
                              refine lv_goto (tgt := 678) hx hb dL_refuses_668 (by decide) ?_
                              exact jn678 _ (zg_e c_664)
                        · skip
                          refine lv_iload_n hx hb dL_refuses_631 rfl (lv_at hl 8 rfl) ?_
                          refine lv_iconst (v := (nI 2)) hx hb dL_refuses_632 (by decide) ?_
                          refine lv_irem hx hb dL_refuses_633 (nI_ne0 (by omega) (by omega)) ?_
                          refine ti (pk_rem (a := v) (d := 2) (by omega) (by omega) (by omega)) ?_
                          refine lv_if_ne (tgt := 641) hx hb dL_refuses_634 (by decide) (fun c_634 => ?_) (fun c_634 => ?_)
                          · have c_634 := (nz_ne c_634 (by omega))
                            refine lv_bipush (v := (nI 51)) hx hb dL_refuses_641 (by decide) ?_
                            refine lv_iload_n hx hb dL_refuses_643 rfl (lv_at hl 8 rfl) ?_
                            refine lv_bipush (v := (nI 9)) hx hb dL_refuses_644 (by decide) ?_
                            refine lv_irem hx hb dL_refuses_646 (nI_ne0 (by omega) (by omega)) ?_
                            refine ti (pk_rem (a := v) (d := 9) (by omega) (by omega) (by omega)) ?_
                            refine lv_iadd hx hb dL_refuses_647 ?_
                            refine ti (nI_add 51 (v % 9)) ?_
                            exact jn648 _ (zg_o c_634)
                          · have c_634 := (nz_eq c_634 (by omega))
                            refine lv_iconst (v := (nI NN)) hx hb dL_refuses_637 (by decide) ?_
                            refine lv_goto (tgt := 648) hx hb dL_refuses_638 (by decide) ?_
                            exact jn648 _ (zg_e c_634)
                      · skip
                        refine lv_iload_n hx hb dL_refuses_600 rfl (lv_at hl 8 rfl) ?_
                        refine lv_iconst (v := (nI 2)) hx hb dL_refuses_601 (by decide) ?_
                        refine lv_irem hx hb dL_refuses_602 (nI_ne0 (by omega) (by omega)) ?_
                        refine ti (pk_rem (a := v) (d := 2) (by omega) (by omega) (by omega)) ?_
                        refine lv_if_ne (tgt := 610) hx hb dL_refuses_603 (by decide) (fun c_603 => ?_) (fun c_603 => ?_)
                        · have c_603 := (nz_ne c_603 (by omega))
                          refine lv_bipush (v := (nI 100)) hx hb dL_refuses_610 (by decide) ?_
                          refine lv_iload_n hx hb dL_refuses_612 rfl (lv_at hl 8 rfl) ?_
                          refine lv_bipush (v := (nI 9)) hx hb dL_refuses_613 (by decide) ?_
                          refine lv_irem hx hb dL_refuses_615 (nI_ne0 (by omega) (by omega)) ?_
                          refine ti (pk_rem (a := v) (d := 9) (by omega) (by omega) (by omega)) ?_
                          refine lv_iadd hx hb dL_refuses_616 ?_
                          refine ti (nI_add 100 (v % 9)) ?_
                          exact jn617 _ (zg_o c_603)
                        · have c_603 := (nz_eq c_603 (by omega))
                          refine lv_iconst (v := (nI 0)) hx hb dL_refuses_606 (by decide) ?_
                          refine lv_goto (tgt := 617) hx hb dL_refuses_607 (by decide) ?_
                          exact jn617 _ (zg_e c_603)
                    · skip
                      refine lv_iload_n hx hb dL_refuses_457 rfl (lv_at hl 8 rfl) ?_
                      refine lv_iconst (v := (nI 2)) hx hb dL_refuses_458 (by decide) ?_
                      refine lv_irem hx hb dL_refuses_459 (nI_ne0 (by omega) (by omega)) ?_
                      refine ti (pk_rem (a := v) (d := 2) (by omega) (by omega) (by omega)) ?_
                      refine lv_if_ne (tgt := 467) hx hb dL_refuses_460 (by decide) (fun c_460 => ?_) (fun c_460 => ?_)
                      · have c_460 := (nz_ne c_460 (by omega))
                        refine lv_bipush (v := (nI 100)) hx hb dL_refuses_467 (by decide) ?_
                        refine lv_iload_n hx hb dL_refuses_469 rfl (lv_at hl 8 rfl) ?_
                        refine lv_bipush (v := (nI 9)) hx hb dL_refuses_470 (by decide) ?_
                        refine lv_irem hx hb dL_refuses_472 (nI_ne0 (by omega) (by omega)) ?_
                        refine ti (pk_rem (a := v) (d := 9) (by omega) (by omega) (by omega)) ?_
                        refine lv_iadd hx hb dL_refuses_473 ?_
                        refine ti (nI_add 100 (v % 9)) ?_
                        exact jn474 _ (zg_o c_460)
                      · have c_460 := (nz_eq c_460 (by omega))
                        refine lv_iconst (v := (nI NN)) hx hb dL_refuses_463 (by decide) ?_
                        refine lv_goto (tgt := 474) hx hb dL_refuses_464 (by decide) ?_
                        exact jn474 _ (zg_e c_460)
                  · skip
                    refine lv_iload_n hx hb dL_refuses_425 rfl (lv_at hl 8 rfl) ?_
                    refine lv_iconst (v := (nI 2)) hx hb dL_refuses_426 (by decide) ?_
                    refine lv_irem hx hb dL_refuses_427 (nI_ne0 (by omega) (by omega)) ?_
                    refine ti (pk_rem (a := v) (d := 2) (by omega) (by omega) (by omega)) ?_
                    refine lv_if_ne (tgt := 435) hx hb dL_refuses_428 (by decide) (fun c_428 => ?_) (fun c_428 => ?_)
                    · have c_428 := (nz_ne c_428 (by omega))
                      refine lv_sipush (v := (nI 256)) hx hb dL_refuses_435 (by decide) ?_
                      refine lv_iload_n hx hb dL_refuses_438 rfl (lv_at hl 8 rfl) ?_
                      refine lv_bipush (v := (nI 9)) hx hb dL_refuses_439 (by decide) ?_
                      refine lv_irem hx hb dL_refuses_441 (nI_ne0 (by omega) (by omega)) ?_
                      refine ti (pk_rem (a := v) (d := 9) (by omega) (by omega) (by omega)) ?_
                      refine lv_iadd hx hb dL_refuses_442 ?_
                      refine ti (nI_add 256 (v % 9)) ?_
                      exact jn443 _ (zg_o c_428)
                    · have c_428 := (nz_eq c_428 (by omega))
                      refine lv_iconst (v := (nI NN)) hx hb dL_refuses_431 (by decide) ?_
                      refine lv_goto (tgt := 443) hx hb dL_refuses_432 (by decide) ?_
                      exact jn443 _ (zg_e c_428)
                · skip
                  refine lv_iload_n hx hb dL_refuses_362 rfl (lv_at hl 8 rfl) ?_
                  refine lv_iconst (v := (nI 2)) hx hb dL_refuses_363 (by decide) ?_
                  refine lv_irem hx hb dL_refuses_364 (nI_ne0 (by omega) (by omega)) ?_
                  refine ti (pk_rem (a := v) (d := 2) (by omega) (by omega) (by omega)) ?_
                  refine lv_if_ne (tgt := 372) hx hb dL_refuses_365 (by decide) (fun c_365 => ?_) (fun c_365 => ?_)
                  · have c_365 := (nz_ne c_365 (by omega))
                    refine lv_sipush (v := (nI 501)) hx hb dL_refuses_372 (by decide) ?_
                    refine lv_iload_n hx hb dL_refuses_375 rfl (lv_at hl 8 rfl) ?_
                    refine lv_bipush (v := (nI 9)) hx hb dL_refuses_376 (by decide) ?_
                    refine lv_irem hx hb dL_refuses_378 (nI_ne0 (by omega) (by omega)) ?_
                    refine ti (pk_rem (a := v) (d := 9) (by omega) (by omega) (by omega)) ?_
                    refine lv_iadd hx hb dL_refuses_379 ?_
                    refine ti (nI_add 501 (v % 9)) ?_
                    exact jn380 _ (zg_o c_365)
                  · have c_365 := (nz_eq c_365 (by omega))
                    refine lv_iconst (v := (nI 0)) hx hb dL_refuses_368 (by decide) ?_
                    refine lv_goto (tgt := 380) hx hb dL_refuses_369 (by decide) ?_
                    exact jn380 _ (zg_e c_365)
              · skip
                refine lv_iload_n hx hb dL_refuses_332 rfl (lv_at hl 8 rfl) ?_
                refine lv_iconst (v := (nI 2)) hx hb dL_refuses_333 (by decide) ?_
                refine lv_irem hx hb dL_refuses_334 (nI_ne0 (by omega) (by omega)) ?_
                refine ti (pk_rem (a := v) (d := 2) (by omega) (by omega) (by omega)) ?_
                refine lv_if_ne (tgt := 342) hx hb dL_refuses_335 (by decide) (fun c_335 => ?_) (fun c_335 => ?_)
                · have c_335 := (nz_ne c_335 (by omega))
                  refine lv_iconst (v := (nI 4)) hx hb dL_refuses_342 (by decide) ?_
                  refine lv_iload_n hx hb dL_refuses_343 rfl (lv_at hl 8 rfl) ?_
                  refine lv_bipush (v := (nI 9)) hx hb dL_refuses_344 (by decide) ?_
                  refine lv_irem hx hb dL_refuses_346 (nI_ne0 (by omega) (by omega)) ?_
                  refine ti (pk_rem (a := v) (d := 9) (by omega) (by omega) (by omega)) ?_
                  refine lv_iadd hx hb dL_refuses_347 ?_
                  refine ti (nI_add 4 (v % 9)) ?_
                  exact jn348 _ (zg_o c_335)
                · have c_335 := (nz_eq c_335 (by omega))
                  refine lv_iconst (v := (nI 0)) hx hb dL_refuses_338 (by decide) ?_
                  refine lv_goto (tgt := 348) hx hb dL_refuses_339 (by decide) ?_
                  exact jn348 _ (zg_e c_335)
            · skip
              refine lv_iload_n hx hb dL_refuses_301 rfl (lv_at hl 8 rfl) ?_
              refine lv_iconst (v := (nI 2)) hx hb dL_refuses_302 (by decide) ?_
              refine lv_irem hx hb dL_refuses_303 (nI_ne0 (by omega) (by omega)) ?_
              refine ti (pk_rem (a := v) (d := 2) (by omega) (by omega) (by omega)) ?_
              refine lv_if_ne (tgt := 311) hx hb dL_refuses_304 (by decide) (fun c_304 => ?_) (fun c_304 => ?_)
              · have c_304 := (nz_ne c_304 (by omega))
                refine lv_sipush (v := (nI 256)) hx hb dL_refuses_311 (by decide) ?_
                refine lv_iload_n hx hb dL_refuses_314 rfl (lv_at hl 8 rfl) ?_
                refine lv_bipush (v := (nI 9)) hx hb dL_refuses_315 (by decide) ?_
                refine lv_irem hx hb dL_refuses_317 (nI_ne0 (by omega) (by omega)) ?_
                refine ti (pk_rem (a := v) (d := 9) (by omega) (by omega) (by omega)) ?_
                refine lv_iadd hx hb dL_refuses_318 ?_
                refine ti (nI_add 256 (v % 9)) ?_
                exact jn319 _ (zg_o c_304)
              · have c_304 := (nz_eq c_304 (by omega))
                refine lv_iconst (v := (nI 0)) hx hb dL_refuses_307 (by decide) ?_
                refine lv_goto (tgt := 319) hx hb dL_refuses_308 (by decide) ?_
                exact jn319 _ (zg_e c_304)
          · skip
            refine lv_iload_n hx hb dL_refuses_120 rfl (lv_at hl 8 rfl) ?_
            refine lv_iconst (v := (nI 2)) hx hb dL_refuses_121 (by decide) ?_
            refine lv_irem hx hb dL_refuses_122 (nI_ne0 (by omega) (by omega)) ?_
            refine ti (pk_rem (a := v) (d := 2) (by omega) (by omega) (by omega)) ?_
            refine lv_if_ne (tgt := 135) hx hb dL_refuses_123 (by decide) (fun c_123 => ?_) (fun c_123 => ?_)
            · have c_123 := (nz_ne c_123 (by omega))
              refine lv_sipush (v := (nI 256)) hx hb dL_refuses_135 (by decide) ?_
              refine lv_iload_n hx hb dL_refuses_138 rfl (lv_at hl 8 rfl) ?_
              refine lv_bipush (v := (nI 9)) hx hb dL_refuses_139 (by decide) ?_
              refine lv_irem hx hb dL_refuses_141 (nI_ne0 (by omega) (by omega)) ?_
              refine ti (pk_rem (a := v) (d := 9) (by omega) (by omega) (by omega)) ?_
              refine lv_iadd hx hb dL_refuses_142 ?_
              refine ti (nI_add 256 (v % 9)) ?_
              exact jn143 _ (ng_o c_123)
            · have c_123 := (nz_eq c_123 (by omega))
              refine lv_iconst (v := (nI NN)) hx hb dL_refuses_126 (by decide) ?_
              refine lv_iload_n hx hb dL_refuses_127 rfl (lv_at hl 8 rfl) ?_
              refine lv_bipush (v := (nI 9)) hx hb dL_refuses_128 (by decide) ?_
              refine lv_irem hx hb dL_refuses_130 (nI_ne0 (by omega) (by omega)) ?_
              refine ti (pk_rem (a := v) (d := 9) (by omega) (by omega) (by omega)) ?_
              refine lv_isub hx hb dL_refuses_131 ?_
              refine ti (pk_sub (a := NN) (b := (v % 9)) (by omega)) ?_
              refine lv_goto (tgt := 143) hx hb dL_refuses_132 (by decide) ?_
              exact jn143 _ (ng_e c_123)
        · skip
          refine lv_iload_n hx hb dL_refuses_88 rfl (lv_at hl 6 rfl) ?_
          refine lv_iconst (v := (nI 2)) hx hb dL_refuses_89 (by decide) ?_
          refine lv_irem hx hb dL_refuses_90 (nI_ne0 (by omega) (by omega)) ?_
          refine ti (pk_rem (a := v) (d := 2) (by omega) (by omega) (by omega)) ?_
          refine lv_if_ne (tgt := 103) hx hb dL_refuses_91 (by decide) (fun c_91 => ?_) (fun c_91 => ?_)
          · have c_91 := (nz_ne c_91 (by omega))
            refine lv_bipush (v := (nI 8)) hx hb dL_refuses_103 (by decide) ?_
            refine lv_iload_n hx hb dL_refuses_105 rfl (lv_at hl 6 rfl) ?_
            refine lv_bipush (v := (nI 99)) hx hb dL_refuses_106 (by decide) ?_
            refine lv_irem hx hb dL_refuses_108 (nI_ne0 (by omega) (by omega)) ?_
            refine ti (pk_rem (a := v) (d := 99) (by omega) (by omega) (by omega)) ?_
            refine lv_iadd hx hb dL_refuses_109 ?_
            refine ti (nI_add 8 (v % 99)) ?_
            exact jn110 _ (ng_o c_91)
          · have c_91 := (nz_eq c_91 (by omega))
            refine lv_iconst (v := (nI NN)) hx hb dL_refuses_94 (by decide) ?_
            refine lv_iload_n hx hb dL_refuses_95 rfl (lv_at hl 6 rfl) ?_
            refine lv_bipush (v := (nI 99)) hx hb dL_refuses_96 (by decide) ?_
            refine lv_irem hx hb dL_refuses_98 (nI_ne0 (by omega) (by omega)) ?_
            refine ti (pk_rem (a := v) (d := 99) (by omega) (by omega) (by omega)) ?_
            refine lv_isub hx hb dL_refuses_99 ?_
            refine ti (pk_sub (a := NN) (b := (v % 99)) (by omega)) ?_
            refine lv_goto (tgt := 110) hx hb dL_refuses_100 (by decide) ?_
            exact jn110 _ (ng_e c_91)
      · skip
        refine lv_iload_n hx hb dL_refuses_64 rfl (lv_at hl 5 rfl) ?_
        refine lv_iconst (v := (nI 2)) hx hb dL_refuses_65 (by decide) ?_
        refine lv_irem hx hb dL_refuses_66 (nI_ne0 (by omega) (by omega)) ?_
        refine ti (pk_rem (a := v) (d := 2) (by omega) (by omega) (by omega)) ?_
        refine lv_if_ne (tgt := 79) hx hb dL_refuses_67 (by decide) (fun c_67 => ?_) (fun c_67 => ?_)
        · have c_67 := (nz_ne c_67 (by omega))
          refine lv_bipush (v := (nI 12)) hx hb dL_refuses_79 (by decide) ?_
          refine lv_iload_n hx hb dL_refuses_81 rfl (lv_at hl 5 rfl) ?_
          refine lv_bipush (v := (nI 99)) hx hb dL_refuses_82 (by decide) ?_
          refine lv_irem hx hb dL_refuses_84 (nI_ne0 (by omega) (by omega)) ?_
          refine ti (pk_rem (a := v) (d := 99) (by omega) (by omega) (by omega)) ?_
          refine lv_iadd hx hb dL_refuses_85 ?_
          refine ti (nI_add 12 (v % 99)) ?_
          exact jn86 _ (ng_o c_67)
        · have c_67 := (nz_eq c_67 (by omega))
          refine lv_iconst (v := (nI NN)) hx hb dL_refuses_70 (by decide) ?_
          refine lv_iload_n hx hb dL_refuses_71 rfl (lv_at hl 5 rfl) ?_
          refine lv_bipush (v := (nI 99)) hx hb dL_refuses_72 (by decide) ?_
          refine lv_irem hx hb dL_refuses_74 (nI_ne0 (by omega) (by omega)) ?_
          refine ti (pk_rem (a := v) (d := 99) (by omega) (by omega) (by omega)) ?_
          refine lv_isub hx hb dL_refuses_75 ?_
          refine ti (pk_sub (a := NN) (b := (v % 99)) (by omega)) ?_
          refine lv_goto (tgt := 86) hx hb dL_refuses_76 (by decide) ?_
          exact jn86 _ (ng_e c_67)
    · skip
      refine lv_iload_n hx hb dL_refuses_41 rfl (lv_at hl 4 rfl) ?_
      refine lv_iconst (v := (nI 2)) hx hb dL_refuses_42 (by decide) ?_
      refine lv_irem hx hb dL_refuses_43 (nI_ne0 (by omega) (by omega)) ?_
      refine ti (pk_rem (a := v) (d := 2) (by omega) (by omega) (by omega)) ?_
      refine lv_if_ne (tgt := 56) hx hb dL_refuses_44 (by decide) (fun c_44 => ?_) (fun c_44 => ?_)
      · have c_44 := (nz_ne c_44 (by omega))
        refine lv_iload_n hx hb dL_refuses_56 rfl (lv_at hl 1 rfl) ?_
        refine lv_iload_n hx hb dL_refuses_57 rfl (lv_at hl 4 rfl) ?_
        refine lv_bipush (v := (nI 99)) hx hb dL_refuses_58 (by decide) ?_
        refine lv_irem hx hb dL_refuses_60 (nI_ne0 (by omega) (by omega)) ?_
        refine ti (pk_rem (a := v) (d := 99) (by omega) (by omega) (by omega)) ?_
        refine lv_iadd hx hb dL_refuses_61 ?_
        refine ti (nI_add (σ 1) (v % 99)) ?_
        exact jn62 _ (ng_o c_44)
      · have c_44 := (nz_eq c_44 (by omega))
        refine lv_iconst (v := (nI NN)) hx hb dL_refuses_47 (by decide) ?_
        refine lv_iload_n hx hb dL_refuses_48 rfl (lv_at hl 4 rfl) ?_
        refine lv_bipush (v := (nI 99)) hx hb dL_refuses_49 (by decide) ?_
        refine lv_irem hx hb dL_refuses_51 (nI_ne0 (by omega) (by omega)) ?_
        refine ti (pk_rem (a := v) (d := 99) (by omega) (by omega) (by omega)) ?_
        refine lv_isub hx hb dL_refuses_52 ?_
        refine ti (pk_sub (a := NN) (b := (v % 99)) (by omega)) ?_
        refine lv_goto (tgt := 62) hx hb dL_refuses_53 (by decide) ?_
        exact jn62 _ (ng_e c_44)
  · skip
    refine lv_iload_n hx hb dL_refuses_18 rfl (lv_at hl 3 rfl) ?_
    refine lv_iconst (v := (nI 2)) hx hb dL_refuses_19 (by decide) ?_
    refine lv_irem hx hb dL_refuses_20 (nI_ne0 (by omega) (by omega)) ?_
    refine ti (pk_rem (a := v) (d := 2) (by omega) (by omega) (by omega)) ?_
    refine lv_if_ne (tgt := 33) hx hb dL_refuses_21 (by decide) (fun c_21 => ?_) (fun c_21 => ?_)
    · have c_21 := (nz_ne c_21 (by omega))
      refine lv_iload_n hx hb dL_refuses_33 rfl (lv_at hl 1 rfl) ?_
      refine lv_iload_n hx hb dL_refuses_34 rfl (lv_at hl 3 rfl) ?_
      refine lv_bipush (v := (nI 99)) hx hb dL_refuses_35 (by decide) ?_
      refine lv_irem hx hb dL_refuses_37 (nI_ne0 (by omega) (by omega)) ?_
      refine ti (pk_rem (a := v) (d := 99) (by omega) (by omega) (by omega)) ?_
      refine lv_iadd hx hb dL_refuses_38 ?_
      refine ti (nI_add (σ 0) (v % 99)) ?_
      exact jn39 _ (ng_o c_21)
    · have c_21 := (nz_eq c_21 (by omega))
      refine lv_iconst (v := (nI NN)) hx hb dL_refuses_24 (by decide) ?_
      refine lv_iload_n hx hb dL_refuses_25 rfl (lv_at hl 3 rfl) ?_
      refine lv_bipush (v := (nI 99)) hx hb dL_refuses_26 (by decide) ?_
      refine lv_irem hx hb dL_refuses_28 (nI_ne0 (by omega) (by omega)) ?_
      refine ti (pk_rem (a := v) (d := 99) (by omega) (by omega) (by omega)) ?_
      refine lv_isub hx hb dL_refuses_29 ?_
      refine ti (pk_sub (a := NN) (b := (v % 99)) (by omega)) ?_
      refine lv_goto (tgt := 39) hx hb dL_refuses_30 (by decide) ?_
      exact jn39 _ (ng_e c_21)
