set_option maxHeartbeats 4000000 in
set_option maxRecDepth 100000 in
theorem c_X6_isFull (l : Launch) (g : va_G) (cy : Nat → ClassId) (h hs hp : Nat) (sz : Nat) (tx : Nat → Nat) (ln : Nat) (p : Nat) (lt : Nat) (pt : Nat → Nat) (pn : Nat) (hln : ln ≤ 120) : Met l yX6_isFull (Cond.code yX6_isFull cX6_isFull 1 (some .boolean) :: wsL_law) ({ frames := 0, cells := 0, slots := 0, locals := 0 } : Room) (va_Pc [.ref h] (pr g cy [(h, .inr (4, [.ref hs, .int (nI ln), .int (nI p), .int (nI lt), .ref hp, .int (nI pn)])), aI cy hs 120 (mS tx), aI cy hp 4 (mS pt)] sz)) (rd_Q (some (.int (bI (decide (120 ≤ ln)))))) 0 0 (nF) := by
  refine mt_of (cc := cX6_isFull) (maxL := 1) (ret := (some .boolean)) (by decide +kernel) (Nat.le_of_ble_eq_true rfl) ?_
  intro pX eX s mX below meth cX ls A hx hb hr hml hown hts hlk hin hsz hAe hA hP hD hK hX hl
  have hl : lv_has ls 1 [(0, .ref h)] := hl
  have hS : va_S A s.heap s.heap [] := va_S.rf
  refine lv_aload_n hx hb dX6_isFull_0 rfl (lv_at hl 0 rfl) ?_
  refine va_get (D := g) (ci := 4) (v := .int (nI ln)) (C := RX6) (T := TX6) (N := 6) hx hb hts bgX6 hown hK hP 0 rfl rfl 1 (by decide) (hts _ wd9_23) (fun _ h9 => h9) rfl dX6_isFull_1 ?_
  refine lv_aload_n hx hb dX6_isFull_4 rfl (lv_at hl 0 rfl) ?_
  refine va_get (D := g) (ci := 4) (v := .ref hs) (C := RX6) (T := TX6) (N := 6) hx hb hts bgX6 hown hK hP 0 rfl rfl 0 (by decide) (hts _ wd3_18) (fun _ h9 => h9) rfl dX6_isFull_5 ?_
  refine va_alen (v := nI 120) hx hb hK hP 1 0 rfl rfl rfl dX6_isFull_8 ?_
  refine lv_icmp_lt (tgt := 16) hx hb dX6_isFull_9 (by decide) (fun c_9 => ?_) (fun c_9 => ?_)
  · have c_9 := (nc_lt (by omega) (by omega) c_9)
    refine lv_iconst (v := (nI 0)) hx hb dX6_isFull_16 (by decide) ?_
    exact rd_z (by (try have := Nat.not_le.mpr c_9); simp [bI, nI_0, nI_o, *]) hx hb hr dX6_isFull_17 hlk
  · have c_9 := (nc_nlt (by omega) (by omega) c_9)
    refine lv_iconst (v := (nI 1)) hx hb dX6_isFull_12 (by decide) ?_
    refine lv_goto (tgt := 17) hx hb dX6_isFull_13 (by decide) ?_
    exact rd_z (by (try have := Nat.not_le.mpr c_9); simp [bI, nI_0, nI_o, *]) hx hb hr dX6_isFull_17 hlk
set_option maxHeartbeats 4000000 in
set_option maxRecDepth 100000 in
theorem c_X6_add (l : Launch) (g : va_G) (cy : Nat → ClassId) (h hs hp : Nat) (sz : Nat) (tx : Nat → Nat) (ln : Nat) (p : Nat) (lt : Nat) (pt : Nat → Nat) (pn : Nat) (c : Nat) (hln2 : ln < 120) : Met l yX6_add (Cond.code yX6_add cX6_add 2 (some .int) :: wsL_law) ({ frames := 0, cells := 0, slots := 0, locals := 0 } : Room) (va_Pc [.ref h, .int (nI c)] (pr g cy [(h, .inr (4, [.ref hs, .int (nI ln), .int (nI p), .int (nI lt), .ref hp, .int (nI pn)])), aI cy hs 120 (mS tx), aI cy hp 4 (mS pt)] sz)) (wr_Q (fun _ : Unit => (some (.int (nI (ln + 1))))) (fun _ : Unit => True) (fun _ : Unit => [(h, .inr (4, [.ref hs, .int (nI (ln + 1)), .int (nI p), .int (nI lt), .ref hp, .int (nI pn)])), aI cy hs 120 (mS (up tx ln c)), aI cy hp 4 (mS pt)]) g (va_A [(h, .inr (4, [.ref hs, .int (nI ln), .int (nI p), .int (nI lt), .ref hp, .int (nI pn)])), aI cy hs 120 (mS tx), aI cy hp 4 (mS pt)] sz)) 0 0 (va_A [(h, .inr (4, [.ref hs, .int (nI ln), .int (nI p), .int (nI lt), .ref hp, .int (nI pn)])), aI cy hs 120 (mS tx), aI cy hp 4 (mS pt)] sz) := by
  refine mt_of (cc := cX6_add) (maxL := 2) (ret := (some .int)) (by decide +kernel) (Nat.le_of_ble_eq_true rfl) ?_
  intro pX eX s mX below meth cX ls A hx hb hr hml hown hts hlk hin hsz hAe hA hP hD hK hX hl
  subst hsz
  rw [← hAe]
  clear hAe
  have hl : lv_has ls 2 [(0, .ref h), (1, .int (nI c))] := hl
  have hS : va_S A s.heap s.heap [] := va_S.rf
  refine lv_aload_n hx hb dX6_add_0 rfl (lv_at hl 0 rfl) ?_
  refine va_get (D := g) (ci := 4) (v := .int (nI ln)) (C := RX6) (T := TX6) (N := 6) hx hb hts bgX6 hown hK hP 0 rfl rfl 1 (by decide) (hts _ wd9_23) (fun _ h9 => h9) rfl dX6_add_1 ?_
  refine lv_if_lt (tgt := 39) hx hb dX6_add_4 (by decide) (fun c_4 => ?_) (fun c_4 => ?_)
  · exact absurd c_4 (nI_pos (by omega))
  · skip
    refine lv_aload_n hx hb dX6_add_7 rfl (lv_at hl 0 rfl) ?_
    refine va_get (D := g) (ci := 4) (v := .int (nI ln)) (C := RX6) (T := TX6) (N := 6) hx hb hts bgX6 hown hK hP 0 rfl rfl 1 (by decide) (hts _ wd9_23) (fun _ h9 => h9) rfl dX6_add_8 ?_
    refine lv_aload_n hx hb dX6_add_11 rfl (lv_at hl 0 rfl) ?_
    refine va_get (D := g) (ci := 4) (v := .ref hs) (C := RX6) (T := TX6) (N := 6) hx hb hts bgX6 hown hK hP 0 rfl rfl 0 (by decide) (hts _ wd3_18) (fun _ h9 => h9) rfl dX6_add_12 ?_
    refine va_alen (v := nI 120) hx hb hK hP 1 0 rfl rfl rfl dX6_add_15 ?_
    refine lv_icmp_ge (tgt := 39) hx hb dX6_add_16 (by decide) (fun c_16 => ?_) (fun c_16 => ?_)
    · have c_16 := (nc_le (by omega) (by omega) c_16)
      omega
    · have c_16 := (nc_nle (by omega) (by omega) c_16)
      refine lv_aload_n hx hb dX6_add_19 rfl (lv_at hl 0 rfl) ?_
      refine va_get (D := g) (ci := 4) (v := .ref hs) (C := RX6) (T := TX6) (N := 6) hx hb hts bgX6 hown hK hP 0 rfl rfl 0 (by decide) (hts _ wd3_18) (fun _ h9 => h9) rfl dX6_add_20 ?_
      refine lv_aload_n hx hb dX6_add_23 rfl (lv_at hl 0 rfl) ?_
      refine va_get (D := g) (ci := 4) (v := .int (nI ln)) (C := RX6) (T := TX6) (N := 6) hx hb hts bgX6 hown hK hP 0 rfl rfl 1 (by decide) (hts _ wd9_23) (fun _ h9 => h9) rfl dX6_add_24 ?_
      refine lv_iload_n hx hb dX6_add_27 rfl (lv_at hl 1 rfl) ?_
      refine va_iast hx hb hK hP hD hS 1 0 rfl rfl (vp_in_nI (n := ln) (by omega) (by omega)) dX6_add_28 (fun H locs hP hD hS => ?_)
      rw [nI_clamp (n := ln) (by omega)] at hP hD
      rw [mS_up] at hP hD
      have hP : va_P g vwCl [(h, .inr (4, [.ref hs, .int (nI ln), .int (nI p), .int (nI lt), .ref hp, .int (nI pn)])), aI cy hs 120 (mS (up tx ln c)), aI cy hp 4 (mS pt)] H := hP
      have hD : va_D A [(h, .inr (4, [.ref hs, .int (nI ln), .int (nI p), .int (nI lt), .ref hp, .int (nI pn)])), aI cy hs 120 (mS (up tx ln c)), aI cy hp 4 (mS pt)] := hD
      refine lv_aload_n hx hb dX6_add_29 rfl (lv_at hl 0 rfl) ?_
      refine lv_dup hx hb dX6_add_30 rfl ?_
      refine va_get (D := g) (ci := 4) (v := .int (nI ln)) (C := RX6) (T := TX6) (N := 6) hx hb hts bgX6 hown hK hP 0 rfl rfl 1 (by decide) (hts _ wd9_23) (fun _ h9 => h9) rfl dX6_add_31 ?_
      refine lv_iconst (v := (nI 1)) hx hb dX6_add_34 (by decide) ?_
      refine lv_iadd hx hb dX6_add_35 ?_
      refine ti (nI_add ln 1) ?_
      refine va_put (D := g) (ci := 4) (v := .int (nI (ln + 1))) (ty := .int) (C := RX6) (T := TX6) (N := 6) hx hb hts bgX6 tyX6 tyX6_ok nmX6 hown hK hP hD hS 0 rfl rfl 1 (by decide) (hts _ wd9_23) (fun _ h9 => h9) rfl (by decide +kernel) rfl rfl (Nat.le_of_ble_eq_true rfl) dX6_add_36 (fun H locs hP hD hS => ?_)
      have hP : va_P g vwCl [(h, .inr (4, [.ref hs, .int (nI (ln + 1)), .int (nI p), .int (nI lt), .ref hp, .int (nI pn)])), aI cy hs 120 (mS (up tx ln c)), aI cy hp 4 (mS pt)] H := hP
      have hD : va_D A [(h, .inr (4, [.ref hs, .int (nI (ln + 1)), .int (nI p), .int (nI lt), .ref hp, .int (nI pn)])), aI cy hs 120 (mS (up tx ln c)), aI cy hp 4 (mS pt)] := hD
      refine lv_aload_n hx hb dX6_add_39 rfl (lv_at hl 0 rfl) ?_
      refine va_get (D := g) (ci := 4) (v := .int (nI (ln + 1))) (C := RX6) (T := TX6) (N := 6) hx hb hts bgX6 hown hK hP 0 rfl rfl 1 (by decide) (hts _ wd9_23) (fun _ h9 => h9) rfl dX6_add_40 ?_
      exact wr_i () rfl trivial hP hS hx hb hr dX6_add_43 hlk
set_option maxHeartbeats 4000000 in
set_option maxRecDepth 100000 in
theorem c_X6_hasMore (l : Launch) (g : va_G) (cy : Nat → ClassId) (h hs hp : Nat) (sz : Nat) (tx : Nat → Nat) (ln : Nat) (p : Nat) (lt : Nat) (pt : Nat → Nat) (pn : Nat) (hln : ln ≤ 120) (hpp : p ≤ 2000) : Met l yX6_hasMore (Cond.code yX6_hasMore cX6_hasMore 1 (some .boolean) :: wsL_law) ({ frames := 0, cells := 0, slots := 0, locals := 0 } : Room) (va_Pc [.ref h] (pr g cy [(h, .inr (4, [.ref hs, .int (nI ln), .int (nI p), .int (nI lt), .ref hp, .int (nI pn)])), aI cy hs 120 (mS tx), aI cy hp 4 (mS pt)] sz)) (rd_Q (some (.int (bI (decide (p < ln)))))) 0 0 (nF) := by
  refine mt_of (cc := cX6_hasMore) (maxL := 1) (ret := (some .boolean)) (by decide +kernel) (Nat.le_of_ble_eq_true rfl) ?_
  intro pX eX s mX below meth cX ls A hx hb hr hml hown hts hlk hin hsz hAe hA hP hD hK hX hl
  have hl : lv_has ls 1 [(0, .ref h)] := hl
  have hS : va_S A s.heap s.heap [] := va_S.rf
  refine lv_aload_n hx hb dX6_hasMore_0 rfl (lv_at hl 0 rfl) ?_
  refine va_get (D := g) (ci := 4) (v := .int (nI p)) (C := RX6) (T := TX6) (N := 6) hx hb hts bgX6 hown hK hP 0 rfl rfl 2 (by decide) (hts _ wd10_15) (fun _ h9 => h9) rfl dX6_hasMore_1 ?_
  refine lv_aload_n hx hb dX6_hasMore_4 rfl (lv_at hl 0 rfl) ?_
  refine va_get (D := g) (ci := 4) (v := .int (nI ln)) (C := RX6) (T := TX6) (N := 6) hx hb hts bgX6 hown hK hP 0 rfl rfl 1 (by decide) (hts _ wd9_23) (fun _ h9 => h9) rfl dX6_hasMore_5 ?_
  refine lv_icmp_ge (tgt := 15) hx hb dX6_hasMore_8 (by decide) (fun c_8 => ?_) (fun c_8 => ?_)
  · have c_8 := (nc_le (by omega) (by omega) c_8)
    refine lv_iconst (v := (nI 0)) hx hb dX6_hasMore_15 (by decide) ?_
    exact rd_z (by (try have := Nat.not_lt.mpr c_8); simp [bI, nI_0, nI_o, *]) hx hb hr dX6_hasMore_16 hlk
  · have c_8 := (nc_nle (by omega) (by omega) c_8)
    refine lv_iconst (v := (nI 1)) hx hb dX6_hasMore_11 (by decide) ?_
    refine lv_goto (tgt := 16) hx hb dX6_hasMore_12 (by decide) ?_
    exact rd_z (by (try have := Nat.not_lt.mpr c_8); simp [bI, nI_0, nI_o, *]) hx hb hr dX6_hasMore_16 hlk
set_option maxHeartbeats 4000000 in
set_option maxRecDepth 100000 in
theorem c_X6_signHere (l : Launch) (g : va_G) (cy : Nat → ClassId) (h hs hp : Nat) (sz : Nat) (tx : Nat → Nat) (ln : Nat) (p : Nat) (lt : Nat) (pt : Nat → Nat) (pn : Nat) (hln : ln ≤ 120) (hpp : p ≤ 2000) : Met l yX6_signHere (Cond.code yX6_signHere cX6_signHere 2 (some .int) :: wsL_law) ({ frames := 0, cells := 0, slots := 0, locals := 0 } : Room) (va_Pc [.ref h] (pr g cy [(h, .inr (4, [.ref hs, .int (nI ln), .int (nI p), .int (nI lt), .ref hp, .int (nI pn)])), aI cy hs 120 (mS tx), aI cy hp 4 (mS pt)] sz)) (rd_Q (some (.int (nI (sgn tx ln p))))) 0 0 (nF) := by
  refine mt_of (cc := cX6_signHere) (maxL := 2) (ret := (some .int)) (by decide +kernel) (Nat.le_of_ble_eq_true rfl) ?_
  intro pX eX s mX below meth cX ls A hx hb hr hml hown hts hlk hin hsz hAe hA hP hD hK hX hl
  have hl : lv_has ls 2 [(0, .ref h)] := hl
  have hS : va_S A s.heap s.heap [] := va_S.rf
  refine lv_aload_n hx hb dX6_signHere_0 rfl (lv_at hl 0 rfl) ?_
  refine va_get (D := g) (ci := 4) (v := .int (nI p)) (C := RX6) (T := TX6) (N := 6) hx hb hts bgX6 hown hK hP 0 rfl rfl 2 (by decide) (hts _ wd10_15) (fun _ h9 => h9) rfl dX6_signHere_1 ?_
  refine lv_if_lt (tgt := 34) hx hb dX6_signHere_4 (by decide) (fun c_4 => ?_) (fun c_4 => ?_)
  · exact absurd c_4 (nI_pos (by omega))
  · skip
    refine lv_aload_n hx hb dX6_signHere_7 rfl (lv_at hl 0 rfl) ?_
    refine va_get (D := g) (ci := 4) (v := .int (nI p)) (C := RX6) (T := TX6) (N := 6) hx hb hts bgX6 hown hK hP 0 rfl rfl 2 (by decide) (hts _ wd10_15) (fun _ h9 => h9) rfl dX6_signHere_8 ?_
    refine lv_aload_n hx hb dX6_signHere_11 rfl (lv_at hl 0 rfl) ?_
    refine va_get (D := g) (ci := 4) (v := .int (nI ln)) (C := RX6) (T := TX6) (N := 6) hx hb hts bgX6 hown hK hP 0 rfl rfl 1 (by decide) (hts _ wd9_23) (fun _ h9 => h9) rfl dX6_signHere_12 ?_
    refine lv_icmp_ge (tgt := 34) hx hb dX6_signHere_15 (by decide) (fun c_15 => ?_) (fun c_15 => ?_)
    · have c_15 := (nc_le (by omega) (by omega) c_15)
      refine lv_iconst (v := (nI 0)) hx hb dX6_signHere_34 (by decide) ?_
      refine ti (show (nI 0) = (bI false) from rfl) ?_
      refine lv_istore_n (lv' := [(1, .int (bI false)), (0, .ref h)]) hx hb dX6_signHere_35 rfl hl (by decide) rfl (fun ls hl => ?_)
      refine lv_iload_n hx hb dX6_signHere_36 rfl (lv_at hl 0 rfl) ?_
      refine lv_if_eq (tgt := 52) hx hb dX6_signHere_37 (by decide) (fun c_37 => ?_) (fun c_37 => ?_)
      · have c_37 := (bI_eq0.mp c_37)
        refine lv_iconst (v := (nI NN)) hx hb dX6_signHere_52 (by decide) ?_
        exact rd_i (congrArg nI (show _ = (if p < ln then tx p else NN) from (if_neg (Nat.not_lt.mpr c_15)).symm)) hx hb hr dX6_signHere_53 hlk
      · have c_37 := (bI_ne0.mp c_37)
        exact absurd c_37 (by decide)
    · have c_15 := (nc_nle (by omega) (by omega) c_15)
      refine lv_aload_n hx hb dX6_signHere_18 rfl (lv_at hl 0 rfl) ?_
      refine va_get (D := g) (ci := 4) (v := .int (nI p)) (C := RX6) (T := TX6) (N := 6) hx hb hts bgX6 hown hK hP 0 rfl rfl 2 (by decide) (hts _ wd10_15) (fun _ h9 => h9) rfl dX6_signHere_19 ?_
      refine lv_aload_n hx hb dX6_signHere_22 rfl (lv_at hl 0 rfl) ?_
      refine va_get (D := g) (ci := 4) (v := .ref hs) (C := RX6) (T := TX6) (N := 6) hx hb hts bgX6 hown hK hP 0 rfl rfl 0 (by decide) (hts _ wd3_18) (fun _ h9 => h9) rfl dX6_signHere_23 ?_
      refine va_alen (v := nI 120) hx hb hK hP 1 0 rfl rfl rfl dX6_signHere_26 ?_
      refine lv_icmp_ge (tgt := 34) hx hb dX6_signHere_27 (by decide) (fun c_27 => ?_) (fun c_27 => ?_)
      · have c_27 := (nc_le (by omega) (by omega) c_27)
        omega
      · have c_27 := (nc_nle (by omega) (by omega) c_27)
        refine lv_iconst (v := (nI 1)) hx hb dX6_signHere_30 (by decide) ?_
        refine ti (show (nI 1) = (bI true) from rfl) ?_
        refine lv_goto (tgt := 35) hx hb dX6_signHere_31 (by decide) ?_
        refine lv_istore_n (lv' := [(1, .int (bI true)), (0, .ref h)]) hx hb dX6_signHere_35 rfl hl (by decide) rfl (fun ls hl => ?_)
        refine lv_iload_n hx hb dX6_signHere_36 rfl (lv_at hl 0 rfl) ?_
        refine lv_if_eq (tgt := 52) hx hb dX6_signHere_37 (by decide) (fun c_37 => ?_) (fun c_37 => ?_)
        · have c_37 := (bI_eq0.mp c_37)
          exact absurd c_37 (by decide)
        · have c_37 := (bI_ne0.mp c_37)
          refine lv_aload_n hx hb dX6_signHere_40 rfl (lv_at hl 1 rfl) ?_
          refine va_get (D := g) (ci := 4) (v := .ref hs) (C := RX6) (T := TX6) (N := 6) hx hb hts bgX6 hown hK hP 0 rfl rfl 0 (by decide) (hts _ wd3_18) (fun _ h9 => h9) rfl dX6_signHere_41 ?_
          refine lv_aload_n hx hb dX6_signHere_44 rfl (lv_at hl 1 rfl) ?_
          refine va_get (D := g) (ci := 4) (v := .int (nI p)) (C := RX6) (T := TX6) (N := 6) hx hb hts bgX6 hown hK hP 0 rfl rfl 2 (by decide) (hts _ wd10_15) (fun _ h9 => h9) rfl dX6_signHere_45 ?_
          refine va_iald hx hb hK hP 1 0 rfl rfl (vp_in_nI (n := p) (by omega) (by omega)) dX6_signHere_48 ?_
          refine ti (show (mS tx) (nI p).toNatClampNeg = nI (tx p) from by rw [nI_clamp (by omega)]; rfl) ?_
          refine lv_goto (tgt := 53) hx hb dX6_signHere_49 (by decide) ?_
          exact rd_i (congrArg nI (show _ = (if p < ln then tx p else NN) from (if_pos c_15).symm)) hx hb hr dX6_signHere_53 hlk
set_option maxHeartbeats 4000000 in
set_option maxRecDepth 100000 in
theorem c_X6_keepPart (l : Launch) (g : va_G) (cy : Nat → ClassId) (h hs hp : Nat) (sz : Nat) (tx : Nat → Nat) (ln : Nat) (p : Nat) (lt : Nat) (pt : Nat → Nat) (pn : Nat) (v : Nat) (hpn : pn < 4) : Met l yX6_keepPart (Cond.code yX6_keepPart cX6_keepPart 2 none :: wsL_law) ({ frames := 0, cells := 0, slots := 0, locals := 0 } : Room) (va_Pc [.ref h, .int (nI v)] (pr g cy [(h, .inr (4, [.ref hs, .int (nI ln), .int (nI p), .int (nI lt), .ref hp, .int (nI pn)])), aI cy hs 120 (mS tx), aI cy hp 4 (mS pt)] sz)) (wr_Q (fun _ : Unit => none) (fun _ : Unit => True) (fun _ : Unit => [(h, .inr (4, [.ref hs, .int (nI ln), .int (nI p), .int (nI lt), .ref hp, .int (nI (pn + 1))])), aI cy hs 120 (mS tx), aI cy hp 4 (mS (up pt pn v))]) g (va_A [(h, .inr (4, [.ref hs, .int (nI ln), .int (nI p), .int (nI lt), .ref hp, .int (nI pn)])), aI cy hs 120 (mS tx), aI cy hp 4 (mS pt)] sz)) 0 0 (va_A [(h, .inr (4, [.ref hs, .int (nI ln), .int (nI p), .int (nI lt), .ref hp, .int (nI pn)])), aI cy hs 120 (mS tx), aI cy hp 4 (mS pt)] sz) := by
  refine mt_of (cc := cX6_keepPart) (maxL := 2) (ret := none) (by decide +kernel) (Nat.le_of_ble_eq_true rfl) ?_
  intro pX eX s mX below meth cX ls A hx hb hr hml hown hts hlk hin hsz hAe hA hP hD hK hX hl
  subst hsz
  rw [← hAe]
  clear hAe
  have hl : lv_has ls 2 [(0, .ref h), (1, .int (nI v))] := hl
  have hS : va_S A s.heap s.heap [] := va_S.rf
  refine lv_aload_n hx hb dX6_keepPart_0 rfl (lv_at hl 0 rfl) ?_
  refine va_get (D := g) (ci := 4) (v := .int (nI pn)) (C := RX6) (T := TX6) (N := 6) hx hb hts bgX6 hown hK hP 0 rfl rfl 5 (by decide) (hts _ wd11_9) (fun _ h9 => h9) rfl dX6_keepPart_1 ?_
  refine lv_if_lt (tgt := 39) hx hb dX6_keepPart_4 (by decide) (fun c_4 => ?_) (fun c_4 => ?_)
  · exact absurd c_4 (nI_pos (by omega))
  · skip
    refine lv_aload_n hx hb dX6_keepPart_7 rfl (lv_at hl 0 rfl) ?_
    refine va_get (D := g) (ci := 4) (v := .int (nI pn)) (C := RX6) (T := TX6) (N := 6) hx hb hts bgX6 hown hK hP 0 rfl rfl 5 (by decide) (hts _ wd11_9) (fun _ h9 => h9) rfl dX6_keepPart_8 ?_
    refine lv_aload_n hx hb dX6_keepPart_11 rfl (lv_at hl 0 rfl) ?_
    refine va_get (D := g) (ci := 4) (v := .ref hp) (C := RX6) (T := TX6) (N := 6) hx hb hts bgX6 hown hK hP 0 rfl rfl 4 (by decide) (hts _ wd3_19) (fun _ h9 => h9) rfl dX6_keepPart_12 ?_
    refine va_alen (v := nI 4) hx hb hK hP 2 0 rfl rfl rfl dX6_keepPart_15 ?_
    refine lv_icmp_ge (tgt := 39) hx hb dX6_keepPart_16 (by decide) (fun c_16 => ?_) (fun c_16 => ?_)
    · have c_16 := (nc_le (by omega) (by omega) c_16)
      omega
    · have c_16 := (nc_nle (by omega) (by omega) c_16)
      refine lv_aload_n hx hb dX6_keepPart_19 rfl (lv_at hl 0 rfl) ?_
      refine va_get (D := g) (ci := 4) (v := .ref hp) (C := RX6) (T := TX6) (N := 6) hx hb hts bgX6 hown hK hP 0 rfl rfl 4 (by decide) (hts _ wd3_19) (fun _ h9 => h9) rfl dX6_keepPart_20 ?_
      refine lv_aload_n hx hb dX6_keepPart_23 rfl (lv_at hl 0 rfl) ?_
      refine va_get (D := g) (ci := 4) (v := .int (nI pn)) (C := RX6) (T := TX6) (N := 6) hx hb hts bgX6 hown hK hP 0 rfl rfl 5 (by decide) (hts _ wd11_9) (fun _ h9 => h9) rfl dX6_keepPart_24 ?_
      refine lv_iload_n hx hb dX6_keepPart_27 rfl (lv_at hl 1 rfl) ?_
      refine va_iast hx hb hK hP hD hS 2 0 rfl rfl (vp_in_nI (n := pn) (by omega) (by omega)) dX6_keepPart_28 (fun H locs hP hD hS => ?_)
      rw [nI_clamp (n := pn) (by omega)] at hP hD
      rw [mS_up] at hP hD
      have hP : va_P g vwCl [(h, .inr (4, [.ref hs, .int (nI ln), .int (nI p), .int (nI lt), .ref hp, .int (nI pn)])), aI cy hs 120 (mS tx), aI cy hp 4 (mS (up pt pn v))] H := hP
      have hD : va_D A [(h, .inr (4, [.ref hs, .int (nI ln), .int (nI p), .int (nI lt), .ref hp, .int (nI pn)])), aI cy hs 120 (mS tx), aI cy hp 4 (mS (up pt pn v))] := hD
      refine lv_aload_n hx hb dX6_keepPart_29 rfl (lv_at hl 0 rfl) ?_
      refine lv_dup hx hb dX6_keepPart_30 rfl ?_
      refine va_get (D := g) (ci := 4) (v := .int (nI pn)) (C := RX6) (T := TX6) (N := 6) hx hb hts bgX6 hown hK hP 0 rfl rfl 5 (by decide) (hts _ wd11_9) (fun _ h9 => h9) rfl dX6_keepPart_31 ?_
      refine lv_iconst (v := (nI 1)) hx hb dX6_keepPart_34 (by decide) ?_
      refine lv_iadd hx hb dX6_keepPart_35 ?_
      refine ti (nI_add pn 1) ?_
      refine va_put (D := g) (ci := 4) (v := .int (nI (pn + 1))) (ty := .int) (C := RX6) (T := TX6) (N := 6) hx hb hts bgX6 tyX6 tyX6_ok nmX6 hown hK hP hD hS 0 rfl rfl 5 (by decide) (hts _ wd11_9) (fun _ h9 => h9) rfl (by decide +kernel) rfl rfl (Nat.le_of_ble_eq_true rfl) dX6_keepPart_36 (fun H locs hP hD hS => ?_)
      have hP : va_P g vwCl [(h, .inr (4, [.ref hs, .int (nI ln), .int (nI p), .int (nI lt), .ref hp, .int (nI (pn + 1))])), aI cy hs 120 (mS tx), aI cy hp 4 (mS (up pt pn v))] H := hP
      have hD : va_D A [(h, .inr (4, [.ref hs, .int (nI ln), .int (nI p), .int (nI lt), .ref hp, .int (nI (pn + 1))])), aI cy hs 120 (mS tx), aI cy hp 4 (mS (up pt pn v))] := hD
      exact wr_v () rfl trivial hP hS hx hb hr dX6_keepPart_39 hlk
set_option maxHeartbeats 4000000 in
set_option maxRecDepth 100000 in
theorem c_X6_part (l : Launch) (g : va_G) (cy : Nat → ClassId) (h hs hp : Nat) (sz : Nat) (tx : Nat → Nat) (ln : Nat) (p : Nat) (lt : Nat) (pt : Nat → Nat) (pn : Nat) (i : Nat) (hip : i < pn) (hpn4 : pn ≤ 4) : Met l yX6_part (Cond.code yX6_part cX6_part 2 (some .int) :: wsL_law) ({ frames := 0, cells := 0, slots := 0, locals := 0 } : Room) (va_Pc [.ref h, .int (nI i)] (pr g cy [(h, .inr (4, [.ref hs, .int (nI ln), .int (nI p), .int (nI lt), .ref hp, .int (nI pn)])), aI cy hs 120 (mS tx), aI cy hp 4 (mS pt)] sz)) (rd_Q (some (.int (nI (pt i))))) 0 0 (nF) := by
  refine mt_of (cc := cX6_part) (maxL := 2) (ret := (some .int)) (by decide +kernel) (Nat.le_of_ble_eq_true rfl) ?_
  intro pX eX s mX below meth cX ls A hx hb hr hml hown hts hlk hin hsz hAe hA hP hD hK hX hl
  have hl : lv_has ls 2 [(0, .ref h), (1, .int (nI i))] := hl
  have hS : va_S A s.heap s.heap [] := va_S.rf
  refine lv_iload_n hx hb dX6_part_0 rfl (lv_at hl 1 rfl) ?_
  refine lv_if_lt (tgt := 30) hx hb dX6_part_1 (by decide) (fun c_1 => ?_) (fun c_1 => ?_)
  · exact absurd c_1 (nI_pos (by omega))
  · skip
    refine lv_iload_n hx hb dX6_part_4 rfl (lv_at hl 1 rfl) ?_
    refine lv_aload_n hx hb dX6_part_5 rfl (lv_at hl 0 rfl) ?_
    refine va_get (D := g) (ci := 4) (v := .int (nI pn)) (C := RX6) (T := TX6) (N := 6) hx hb hts bgX6 hown hK hP 0 rfl rfl 5 (by decide) (hts _ wd11_9) (fun _ h9 => h9) rfl dX6_part_6 ?_
    refine lv_icmp_ge (tgt := 30) hx hb dX6_part_9 (by decide) (fun c_9 => ?_) (fun c_9 => ?_)
    · have c_9 := (nc_le (by omega) (by omega) c_9)
      omega
    · have c_9 := (nc_nle (by omega) (by omega) c_9)
      refine lv_iload_n hx hb dX6_part_12 rfl (lv_at hl 1 rfl) ?_
      refine lv_aload_n hx hb dX6_part_13 rfl (lv_at hl 0 rfl) ?_
      refine va_get (D := g) (ci := 4) (v := .ref hp) (C := RX6) (T := TX6) (N := 6) hx hb hts bgX6 hown hK hP 0 rfl rfl 4 (by decide) (hts _ wd3_19) (fun _ h9 => h9) rfl dX6_part_14 ?_
      refine va_alen (v := nI 4) hx hb hK hP 2 0 rfl rfl rfl dX6_part_17 ?_
      refine lv_icmp_ge (tgt := 30) hx hb dX6_part_18 (by decide) (fun c_18 => ?_) (fun c_18 => ?_)
      · have c_18 := (nc_le (by omega) (by omega) c_18)
        omega
      · have c_18 := (nc_nle (by omega) (by omega) c_18)
        refine lv_aload_n hx hb dX6_part_21 rfl (lv_at hl 0 rfl) ?_
        refine va_get (D := g) (ci := 4) (v := .ref hp) (C := RX6) (T := TX6) (N := 6) hx hb hts bgX6 hown hK hP 0 rfl rfl 4 (by decide) (hts _ wd3_19) (fun _ h9 => h9) rfl dX6_part_22 ?_
        refine lv_iload_n hx hb dX6_part_25 rfl (lv_at hl 1 rfl) ?_
        refine va_iald hx hb hK hP 2 0 rfl rfl (vp_in_nI (n := i) (by omega) (by omega)) dX6_part_26 ?_
        refine ti (show (mS pt) (nI i).toNatClampNeg = nI (pt i) from by rw [nI_clamp (by omega)]; rfl) ?_
        refine lv_goto (tgt := 31) hx hb dX6_part_27 (by decide) ?_
        exact rd_i rfl hx hb hr dX6_part_31 hlk
set_option maxHeartbeats 4000000 in
set_option maxRecDepth 100000 in
theorem c_X6_readNumber (l : Launch) (g : va_G) (cy : Nat → ClassId) (h hs hp : Nat) (sz : Nat) (tx : Nat → Nat) (ln : Nat) (p : Nat) (lt : Nat) (pt : Nat → Nat) (pn : Nat) (dgs : Nat) (lo : Nat) (hi : Nat) (htx : ∀ i9, tx i9 < 256) (hln : ln ≤ 120) (hpp : p ≤ 1000) (hpn : pn < 4) (hdg : 1 ≤ dgs) (hdg3 : dgs ≤ 3) (hhi : hi ≤ 500) (hlo : lo ≤ 500) : Met l yX6_readNumber (Cond.code yX6_readNumber cX6_readNumber 8 (some .boolean) :: wsL_law) ({ frames := 1, cells := 0, slots := 0, locals := 21 } : Room) (va_Pc [.ref h, .int (nI dgs), .int (nI lo), .int (nI hi)] (pr g cy [(h, .inr (4, [.ref hs, .int (nI ln), .int (nI p), .int (nI lt), .ref hp, .int (nI pn)])), aI cy hs 120 (mS tx), aI cy hp 4 (mS pt)] sz)) (wr_Q (fun r : Bool × Nat × Nat => (some (.int (bI r.1)))) (fun r : Bool × Nat × Nat => (r = itF tx ln dgs lo hi p)) (fun r : Bool × Nat × Nat => [(h, .inr (4, [.ref hs, .int (nI ln), .int (nI r.2.2), .int (nI lt), .ref hp, .int (nI (if r.1 = true then pn + 1 else pn))])), aI cy hs 120 (mS tx), aI cy hp 4 (mS (if r.1 = true then up pt pn r.2.1 else pt))]) g (va_A [(h, .inr (4, [.ref hs, .int (nI ln), .int (nI p), .int (nI lt), .ref hp, .int (nI pn)])), aI cy hs 120 (mS tx), aI cy hp 4 (mS pt)] sz)) 0 0 (va_A [(h, .inr (4, [.ref hs, .int (nI ln), .int (nI p), .int (nI lt), .ref hp, .int (nI pn)])), aI cy hs 120 (mS tx), aI cy hp 4 (mS pt)] sz) := by
  refine mt_of (cc := cX6_readNumber) (maxL := 8) (ret := (some .boolean)) (by decide +kernel) (Nat.le_of_ble_eq_true rfl) ?_
  intro pX eX s mX below meth cX ls A hx hb hr hml hown hts hlk hin hsz hAe hA hP hD hK hX hl
  subst hsz
  rw [← hAe]
  clear hAe
  have hl : lv_has ls 8 [(0, .ref h), (1, .int (nI dgs)), (2, .int (nI lo)), (3, .int (nI hi))] := hl
  have hS : va_S A s.heap s.heap [] := va_S.rf
  refine lv_iconst (v := (nI 1)) hx hb dX6_readNumber_0 (by decide) ?_
  refine lv_istore (lv' := [(4, .int (nI 1)), (0, .ref h), (1, .int (nI dgs)), (2, .int (nI lo)), (3, .int (nI hi))]) hx hb dX6_readNumber_1 hl (by decide) rfl (fun ls hl => ?_)
  refine lv_iconst (v := (nI 1)) hx hb dX6_readNumber_3 (by decide) ?_
  refine lv_istore (lv' := [(5, .int (nI 1)), (4, .int (nI 1)), (0, .ref h), (1, .int (nI dgs)), (2, .int (nI lo)), (3, .int (nI hi))]) hx hb dX6_readNumber_4 hl (by decide) rfl (fun ls hl => ?_)
  have hl : lv_has ls 8 [(5, .int (nI 1)), (4, .int (nI (10 ^ 0))), (0, .ref h), (1, .int (nI dgs)), (2, .int (nI lo)), (3, .int (nI hi))] := by rw [← show (nI 1) = (nI (10 ^ 0)) from rfl]; exact hl
  have hl : lv_has ls 8 [(5, .int (nI (0 + 1))), (4, .int (nI (10 ^ 0))), (0, .ref h), (1, .int (nI dgs)), (2, .int (nI lo)), (3, .int (nI hi))] := by rw [← show (nI 1) = (nI (0 + 1)) from rfl]; exact hl
  refine lp_rd (σ := (Nat)) (fun x9 ls9 => lv_has ls9 8 [(0, .ref h), (1, .int (nI dgs)), (2, .int (nI lo)), (3, .int (nI hi)), (4, .int (nI (10 ^ x9))), (5, .int (nI (x9 + 1)))] ∧ (x9 + 1 ≤ dgs)) (fun x9 => dgs - x9) (0) ⟨lv_sub hl [2, 3, 4, 5, 1, 0] rfl, (by omega)⟩ ?_
  rintro i ls ⟨hl, hi9⟩ ih6
  try dsimp only at hl hi9 ih6
  refine lv_iload hx hb dX6_readNumber_6 (lv_at hl 5 rfl) ?_
  refine lv_iload_n hx hb dX6_readNumber_8 rfl (lv_at hl 1 rfl) ?_
  refine lv_icmp_ge (tgt := 25) hx hb dX6_readNumber_9 (by decide) (fun c_9 => ?_) (fun c_9 => ?_)
  · have c_9 := (nc_le (by omega) (by omega) c_9)
    refine lv_iconst (v := (nI 0)) hx hb dX6_readNumber_25 (by decide) ?_
    refine lv_istore (lv' := [(5, .int (nI 0)), (0, .ref h), (1, .int (nI dgs)), (2, .int (nI lo)), (3, .int (nI hi)), (4, .int (nI (10 ^ i)))]) hx hb dX6_readNumber_26 hl (by decide) rfl (fun ls hl => ?_)
    refine lv_iconst (v := (nI 0)) hx hb dX6_readNumber_28 (by decide) ?_
    refine lv_istore (lv' := [(6, .int (nI 0)), (5, .int (nI 0)), (0, .ref h), (1, .int (nI dgs)), (2, .int (nI lo)), (3, .int (nI hi)), (4, .int (nI (10 ^ i)))]) hx hb dX6_readNumber_29 hl (by decide) rfl (fun ls hl => ?_)
    have hl : lv_has ls 8 [(6, .int (nI 0)), (5, .int (nI 0)), (0, .ref h), (1, .int (nI dgs)), (2, .int (nI lo)), (3, .int (nI hi)), (4, .int (nI (10 ^ dgs / 10)))] := by rw [← show (nI (10 ^ i)) = (nI (10 ^ dgs / 10)) from (congrArg nI (by rw [show dgs = i + 1 by omega]; exact (p10_s i).symm))]; exact hl
    have hl : lv_has ls 8 [(6, .int (nI (dgs - dgs))), (5, .int (nI 0)), (0, .ref h), (1, .int (nI dgs)), (2, .int (nI lo)), (3, .int (nI hi)), (4, .int (nI (10 ^ dgs / 10)))] := by rw [← show (nI 0) = (nI (dgs - dgs)) from (congrArg nI (Nat.sub_self _).symm)]; exact hl
    refine lp_rule (σ := (Nat) × (Nat) × (Nat)) (fun x9 H9 locs9 ls9 => va_P g vwCl [(h, .inr (4, [.ref hs, .int (nI ln), .int (nI x9.2.2), .int (nI lt), .ref hp, .int (nI pn)])), aI cy hs 120 (mS tx), aI cy hp 4 (mS pt)] H9 ∧ va_D A [(h, .inr (4, [.ref hs, .int (nI ln), .int (nI x9.2.2), .int (nI lt), .ref hp, .int (nI pn)])), aI cy hs 120 (mS tx), aI cy hp 4 (mS pt)] ∧ va_S A s.heap H9 locs9 ∧ lv_has ls9 8 [(0, .ref h), (1, .int (nI dgs)), (2, .int (nI lo)), (3, .int (nI hi)), (4, .int (nI (10 ^ x9.1 / 10))), (5, .int (nI x9.2.1)), (6, .int (nI (dgs - x9.1)))] ∧ (x9.1 ≤ dgs) ∧ (x9.2.1 ≤ hi) ∧ (x9.2.2 ≤ p + (dgs - x9.1)) ∧ (numF tx ln lo hi x9.1 x9.2.1 x9.2.2 = numF tx ln lo hi dgs 0 p)) (fun x9 => x9.1) (dgs, 0, p) ⟨hP, hD, hS, lv_sub hl [2, 3, 4, 5, 6, 1, 0] rfl, (Nat.le_refl _), (Nat.zero_le _), (Nat.le_add_right _ _), rfl⟩ ?_
    rintro ⟨k, v, q⟩ H locs ls ⟨hP, hD, hS, hl, hk, hv, hq, hnv⟩ ih31
    try dsimp only at hl hk hv hq hnv hP hD ih31
    refine lv_iload hx hb dX6_readNumber_31 (lv_at hl 6 rfl) ?_
    refine lv_iload_n hx hb dX6_readNumber_33 rfl (lv_at hl 1 rfl) ?_
    refine lv_icmp_ge (tgt := 112) hx hb dX6_readNumber_34 (by decide) (fun c_34 => ?_) (fun c_34 => ?_)
    · have c_34 := (nc_le (by omega) (by omega) c_34)
      obtain rfl : k = 0 := by omega
      have hfin : itF tx ln dgs lo hi p = (true, v, q) := by rw [show itF tx ln dgs lo hi p = numF tx ln lo hi dgs 0 p from if_neg (by omega), ← hnv]; rfl
      refine lv_aload_n hx hb dX6_readNumber_112 rfl (lv_at hl 0 rfl) ?_
      refine lv_iload hx hb dX6_readNumber_113 (lv_at hl 5 rfl) ?_
      refine wr_call (wc := [(h, .inr (4, [.ref hs, .int (nI ln), .int (nI q), .int (nI lt), .ref hp, .int (nI pn)])), aI cy hs 120 (mS tx), aI cy hp 4 (mS pt)]) (va_runV (As := [.int (nI v)]) (rest := []) ⟨hx, hb, hml, hown, hts⟩ (c_X6_keepPart l g cy h hs hp H.size tx ln q lt pt pn v (by omega)) ⟨(cB 1 hts wd11_17 wd2_0 wd11_14 rfl rfl (by decide +kernel) ⟨Nat.le_of_ble_eq_true rfl, Nat.le_of_ble_eq_true rfl⟩), hts _ wd11_15, hts _ wd11_16⟩ (pv hK hP hD hS hA hX [0, 1, 2] rfl rfl 4 0 rfl rfl) rfl rfl hl.1 rfl (lv_room (Nat.le_of_ble_eq_true rfl)) dX6_readNumber_115 ⟨Nat.zero_le _, Nat.zero_le _⟩) hP hD hS hA [0, 1, 2] rfl rfl (fun _ => (rfl : ([h, hs, hp] : List Nat) = [h, hs, hp])) ?_
      rintro _u9 H locs - hP hD hS
      have hP : va_P g vwCl [(h, .inr (4, [.ref hs, .int (nI ln), .int (nI q), .int (nI lt), .ref hp, .int (nI (pn + 1))])), aI cy hs 120 (mS tx), aI cy hp 4 (mS (up pt pn v))] H := hP
      have hD : va_D A [(h, .inr (4, [.ref hs, .int (nI ln), .int (nI q), .int (nI lt), .ref hp, .int (nI (pn + 1))])), aI cy hs 120 (mS tx), aI cy hp 4 (mS (up pt pn v))] := hD
      show W _ _ _ _ _ _ _ _ _ _ _ _ _ _ _ (F0 mX 118 ls [])
      refine lv_iconst (v := (nI 1)) hx hb dX6_readNumber_118 (by decide) ?_
      exact wr_z (b := true) (itF tx ln dgs lo hi p) rfl (by rw [hfin]) rfl (by rw [hfin]; exact hP) hS hx hb hr dX6_readNumber_119 hlk
    · have c_34 := (nc_nle (by omega) (by omega) c_34)
      obtain ⟨k, rfl⟩ : ∃ k1, k = k1 + 1 := ⟨k - 1, by omega⟩
      have hp10 := p10_le2 (show k ≤ 2 by omega)
      have hp11 := p10_pos k
      have htx9 := htx q
      have hmul : (tx q - 48) * 10 ^ k ≤ 255 * 100 := Nat.mul_le_mul (by omega) hp10
      have hl : lv_has ls 8 [(0, .ref h), (1, .int (nI dgs)), (2, .int (nI lo)), (3, .int (nI hi)), (4, .int (nI (10 ^ k))), (5, .int (nI v)), (6, .int (nI (dgs - (k + 1))))] := by rw [← show (nI (10 ^ (k + 1) / 10)) = (nI (10 ^ k)) from (congrArg nI (p10_s k))]; exact hl
      refine lv_aload_n hx hb dX6_readNumber_37 rfl (lv_at hl 0 rfl) ?_
      refine rd_call (va_runV (As := []) (rest := []) ⟨hx, hb, hml, hown, hts⟩ (c_X6_signHere l g cy h hs hp H.size tx ln q lt pt pn (by omega) (by omega)) ⟨(cB 0 hts wd10_23 wd2_0 wd10_20 rfl rfl (by decide +kernel) ⟨Nat.le_of_ble_eq_true rfl, Nat.le_of_ble_eq_true rfl⟩), hts _ wd10_21, hts _ wd10_22⟩ (pv hK hP hD hS hA hX [0, 1, 2] rfl rfl 4 0 rfl rfl) rfl rfl hl.1 rfl (lv_room (Nat.le_of_ble_eq_true rfl)) dX6_readNumber_38 ⟨Nat.zero_le _, Nat.zero_le _⟩) ?_
      show W _ _ _ _ _ _ _ _ _ _ _ _ _ _ _ (F0 mX 41 ls [.int (nI (sgn tx ln q))])
      by_cases hqln : q < ln
      · refine ti (show (nI (sgn tx ln q)) = (nI (tx q)) from (congrArg nI (if_pos hqln))) ?_
        refine lv_istore (lv' := [(7, .int (nI (tx q))), (0, .ref h), (1, .int (nI dgs)), (2, .int (nI lo)), (3, .int (nI hi)), (4, .int (nI (10 ^ k))), (5, .int (nI v)), (6, .int (nI (dgs - (k + 1))))]) hx hb dX6_readNumber_41 hl (by decide) rfl (fun ls hl => ?_)
        refine lv_iload hx hb dX6_readNumber_43 (lv_at hl 6 rfl) ?_
        refine lv_iload hx hb dX6_readNumber_45 (lv_at hl 0 rfl) ?_
        refine lv_bipush (v := (nI 48)) hx hb dX6_readNumber_47 (by decide) ?_
        refine lv_isub hx hb dX6_readNumber_49 ?_
        refine lv_iload hx hb dX6_readNumber_50 (lv_at hl 5 rfl) ?_
        refine lv_imul hx hb dX6_readNumber_52 ?_
        refine lv_iadd hx hb dX6_readNumber_53 ?_
        refine lv_istore (lv' := [(5, .int ((nI v) + (((nI (tx q)) - (nI 48)) * (nI (10 ^ k))))), (7, .int (nI (tx q))), (0, .ref h), (1, .int (nI dgs)), (2, .int (nI lo)), (3, .int (nI hi)), (4, .int (nI (10 ^ k))), (6, .int (nI (dgs - (k + 1))))]) hx hb dX6_readNumber_54 hl (by decide) rfl (fun ls hl => ?_)
        refine lv_iload hx hb dX6_readNumber_56 (lv_at hl 1 rfl) ?_
        refine lv_bipush (v := (nI 48)) hx hb dX6_readNumber_58 (by decide) ?_
        refine lv_icmp_lt (tgt := 87) hx hb dX6_readNumber_60 (by decide) (fun c_60 => ?_) (fun c_60 => ?_)
        · have c_60 := (nc_lt (by omega) (by omega) c_60)
          refine lv_iconst (v := (nI 0)) hx hb dX6_readNumber_87 (by decide) ?_
          have hfin : itF tx ln dgs lo hi p = (false, v, q) := by rw [show itF tx ln dgs lo hi p = numF tx ln lo hi dgs 0 p from if_neg (by omega), ← hnv, numF_no (by omega)]
          exact wr_z (b := false) (itF tx ln dgs lo hi p) rfl (by rw [hfin]) rfl (by rw [hfin]; exact hP) hS hx hb hr dX6_readNumber_88 hlk
        · have c_60 := (nc_nlt (by omega) (by omega) c_60)
          have hl : lv_has ls 8 [(5, .int (nI (v + (tx q - 48) * 10 ^ k))), (7, .int (nI (tx q))), (0, .ref h), (1, .int (nI dgs)), (2, .int (nI lo)), (3, .int (nI hi)), (4, .int (nI (10 ^ k))), (6, .int (nI (dgs - (k + 1))))] := by rw [← show ((nI v) + (((nI (tx q)) - (nI 48)) * (nI (10 ^ k)))) = (nI (v + (tx q - 48) * 10 ^ k)) from (by rw [pk_sub c_60, pk_mul, nI_add])]; exact hl
          refine lv_iload hx hb dX6_readNumber_63 (lv_at hl 1 rfl) ?_
          refine lv_bipush (v := (nI 57)) hx hb dX6_readNumber_65 (by decide) ?_
          refine lv_icmp_gt (tgt := 87) hx hb dX6_readNumber_67 (by decide) (fun c_67 => ?_) (fun c_67 => ?_)
          · have c_67 := (nc_lt (by omega) (by omega) c_67)
            refine lv_iconst (v := (nI 0)) hx hb dX6_readNumber_87 (by decide) ?_
            have hfin : itF tx ln dgs lo hi p = (false, v, q) := by rw [show itF tx ln dgs lo hi p = numF tx ln lo hi dgs 0 p from if_neg (by omega), ← hnv, numF_no (by omega)]
            exact wr_z (b := false) (itF tx ln dgs lo hi p) rfl (by rw [hfin]) rfl (by rw [hfin]; exact hP) hS hx hb hr dX6_readNumber_88 hlk
          · have c_67 := (nc_nlt (by omega) (by omega) c_67)
            refine lv_iload hx hb dX6_readNumber_70 (lv_at hl 0 rfl) ?_
            refine lv_iload_n hx hb dX6_readNumber_72 rfl (lv_at hl 5 rfl) ?_
            refine lv_icmp_gt (tgt := 87) hx hb dX6_readNumber_73 (by decide) (fun c_73 => ?_) (fun c_73 => ?_)
            · have c_73 := (nc_lt (by omega) (by omega) c_73)
              refine lv_iconst (v := (nI 0)) hx hb dX6_readNumber_87 (by decide) ?_
              have hfin : itF tx ln dgs lo hi p = (false, v, q) := by rw [show itF tx ln dgs lo hi p = numF tx ln lo hi dgs 0 p from if_neg (by omega), ← hnv, numF_no (by omega)]
              exact wr_z (b := false) (itF tx ln dgs lo hi p) rfl (by rw [hfin]) rfl (by rw [hfin]; exact hP) hS hx hb hr dX6_readNumber_88 hlk
            · have c_73 := (nc_nlt (by omega) (by omega) c_73)
              refine lv_iload hx hb dX6_readNumber_76 (lv_at hl 0 rfl) ?_
              refine lv_iload hx hb dX6_readNumber_78 (lv_at hl 6 rfl) ?_
              refine lv_iadd hx hb dX6_readNumber_80 ?_
              refine ti (nI_add (v + (tx q - 48) * 10 ^ k) (10 ^ k)) ?_
              refine lv_iconst (v := (nI 1)) hx hb dX6_readNumber_81 (by decide) ?_
              refine lv_isub hx hb dX6_readNumber_82 ?_
              refine ti (show ((nI ((v + (tx q - 48) * 10 ^ k) + (10 ^ k))) - (nI 1)) = (nI (v + (tx q - 48) * 10 ^ k + 10 ^ k - 1)) from (pk_sub (by omega))) ?_
              refine lv_iload_n hx hb dX6_readNumber_83 rfl (lv_at hl 4 rfl) ?_
              refine lv_icmp_ge (tgt := 89) hx hb dX6_readNumber_84 (by decide) (fun c_84 => ?_) (fun c_84 => ?_)
              · have c_84 := (nc_le (by omega) (by omega) c_84)
                refine lv_aload_n hx hb dX6_readNumber_89 rfl (lv_at hl 2 rfl) ?_
                refine lv_dup hx hb dX6_readNumber_90 rfl ?_
                refine va_get (D := g) (ci := 4) (v := .int (nI q)) (C := RX6) (T := TX6) (N := 6) hx hb hts bgX6 hown hK hP 0 rfl rfl 2 (by decide) (hts _ wd10_15) (fun _ h9 => h9) rfl dX6_readNumber_91 ?_
                refine lv_iconst (v := (nI 1)) hx hb dX6_readNumber_94 (by decide) ?_
                refine lv_iadd hx hb dX6_readNumber_95 ?_
                refine ti (nI_add q 1) ?_
                refine va_put (D := g) (ci := 4) (v := .int (nI (q + 1))) (ty := .int) (C := RX6) (T := TX6) (N := 6) hx hb hts bgX6 tyX6 tyX6_ok nmX6 hown hK hP hD hS 0 rfl rfl 2 (by decide) (hts _ wd10_15) (fun _ h9 => h9) rfl (by decide +kernel) rfl rfl (Nat.le_of_ble_eq_true rfl) dX6_readNumber_96 (fun H locs hP hD hS => ?_)
                have hP : va_P g vwCl [(h, .inr (4, [.ref hs, .int (nI ln), .int (nI (q + 1)), .int (nI lt), .ref hp, .int (nI pn)])), aI cy hs 120 (mS tx), aI cy hp 4 (mS pt)] H := hP
                have hD : va_D A [(h, .inr (4, [.ref hs, .int (nI ln), .int (nI (q + 1)), .int (nI lt), .ref hp, .int (nI pn)])), aI cy hs 120 (mS tx), aI cy hp 4 (mS pt)] := hD
                refine lv_iload hx hb dX6_readNumber_99 (lv_at hl 6 rfl) ?_
                refine lv_bipush (v := (nI 10)) hx hb dX6_readNumber_101 (by decide) ?_
                refine lv_idiv hx hb dX6_readNumber_103 (nI_ne0 (by omega) (by omega)) ?_
                refine ti (pk_div (a := (10 ^ k)) (d := 10) (by omega) (by omega) (by omega)) ?_
                refine lv_istore (lv' := [(4, .int (nI ((10 ^ k) / 10))), (5, .int (nI (v + (tx q - 48) * 10 ^ k))), (7, .int (nI (tx q))), (0, .ref h), (1, .int (nI dgs)), (2, .int (nI lo)), (3, .int (nI hi)), (6, .int (nI (dgs - (k + 1))))]) hx hb dX6_readNumber_104 hl (by decide) rfl (fun ls hl => ?_)
                refine lv_iinc (v := (nI ((dgs - (k + 1)) + 1))) (lv' := [(6, .int (nI ((dgs - (k + 1)) + 1))), (4, .int (nI ((10 ^ k) / 10))), (5, .int (nI (v + (tx q - 48) * 10 ^ k))), (7, .int (nI (tx q))), (0, .ref h), (1, .int (nI dgs)), (2, .int (nI lo)), (3, .int (nI hi))]) hx hb dX6_readNumber_106 hl (k := 7) rfl (nI_add (dgs - (k + 1)) 1) (by decide) rfl (fun ls hl => ?_)
                have hl : lv_has ls 8 [(6, .int (nI (dgs - k))), (4, .int (nI ((10 ^ k) / 10))), (5, .int (nI (v + (tx q - 48) * 10 ^ k))), (7, .int (nI (tx q))), (0, .ref h), (1, .int (nI dgs)), (2, .int (nI lo)), (3, .int (nI hi))] := by rw [← show (nI ((dgs - (k + 1)) + 1)) = (nI (dgs - k)) from (congrArg nI (by omega))]; exact hl
                refine lv_goto (tgt := 31) hx hb dX6_readNumber_109 (by decide) ?_
                exact ih31 (k, v + (tx q - 48) * 10 ^ k, q + 1) H locs ls ⟨hP, hD, hS, lv_sub hl [4, 5, 6, 7, 1, 2, 0] rfl, (by dsimp only; omega), (by dsimp only; omega), (by dsimp only; omega), (by rw [← hnv]; exact (numF_yes (k := k) (v := v) (p := q) (by omega)).symm)⟩ (by first | omega | (dsimp only; omega))
              · have c_84 := (nc_nle (by omega) (by omega) c_84)
                refine lv_iconst (v := (nI 0)) hx hb dX6_readNumber_87 (by decide) ?_
                have hfin : itF tx ln dgs lo hi p = (false, v, q) := by rw [show itF tx ln dgs lo hi p = numF tx ln lo hi dgs 0 p from if_neg (by omega), ← hnv, numF_no (by omega)]
                exact wr_z (b := false) (itF tx ln dgs lo hi p) rfl (by rw [hfin]) rfl (by rw [hfin]; exact hP) hS hx hb hr dX6_readNumber_88 hlk
      · refine ti (show (nI (sgn tx ln q)) = (-1) from (by rw [show sgn tx ln q = NN from if_neg hqln, nI_NN])) ?_
        refine lv_istore (lv' := [(7, .int (-1)), (0, .ref h), (1, .int (nI dgs)), (2, .int (nI lo)), (3, .int (nI hi)), (4, .int (nI (10 ^ k))), (5, .int (nI v)), (6, .int (nI (dgs - (k + 1))))]) hx hb dX6_readNumber_41 hl (by decide) rfl (fun ls hl => ?_)
        refine lv_iload hx hb dX6_readNumber_43 (lv_at hl 6 rfl) ?_
        refine lv_iload hx hb dX6_readNumber_45 (lv_at hl 0 rfl) ?_
        refine lv_bipush (v := (nI 48)) hx hb dX6_readNumber_47 (by decide) ?_
        refine lv_isub hx hb dX6_readNumber_49 ?_
        refine lv_iload hx hb dX6_readNumber_50 (lv_at hl 5 rfl) ?_
        refine lv_imul hx hb dX6_readNumber_52 ?_
        refine lv_iadd hx hb dX6_readNumber_53 ?_
        refine lv_istore (lv' := [(5, .int ((nI v) + (((-1) - (nI 48)) * (nI (10 ^ k))))), (7, .int (-1)), (0, .ref h), (1, .int (nI dgs)), (2, .int (nI lo)), (3, .int (nI hi)), (4, .int (nI (10 ^ k))), (6, .int (nI (dgs - (k + 1))))]) hx hb dX6_readNumber_54 hl (by decide) rfl (fun ls hl => ?_)
        refine lv_iload hx hb dX6_readNumber_56 (lv_at hl 1 rfl) ?_
        refine lv_bipush (v := (nI 48)) hx hb dX6_readNumber_58 (by decide) ?_
        refine lv_icmp_lt (tgt := 87) hx hb dX6_readNumber_60 (by decide) (fun c_60 => ?_) (fun c_60 => ?_)
        · skip
          refine lv_iconst (v := (nI 0)) hx hb dX6_readNumber_87 (by decide) ?_
          have hfin : itF tx ln dgs lo hi p = (false, v, q) := by rw [show itF tx ln dgs lo hi p = numF tx ln lo hi dgs 0 p from if_neg (by omega), ← hnv, numF_no (by omega)]
          exact wr_z (b := false) (itF tx ln dgs lo hi p) rfl (by rw [hfin]) rfl (by rw [hfin]; exact hP) hS hx hb hr dX6_readNumber_88 hlk
        · skip
          exact absurd (by decide) c_60
  · have c_9 := (nc_nle (by omega) (by omega) c_9)
    refine lv_iload hx hb dX6_readNumber_12 (lv_at hl 4 rfl) ?_
    refine lv_bipush (v := (nI 10)) hx hb dX6_readNumber_14 (by decide) ?_
    refine lv_imul hx hb dX6_readNumber_16 ?_
    refine ti (pk_mul (10 ^ i) 10) ?_
    refine lv_istore (lv' := [(4, .int (nI ((10 ^ i) * 10))), (0, .ref h), (1, .int (nI dgs)), (2, .int (nI lo)), (3, .int (nI hi)), (5, .int (nI (i + 1)))]) hx hb dX6_readNumber_17 hl (by decide) rfl (fun ls hl => ?_)
    have hl : lv_has ls 8 [(4, .int (nI (10 ^ (i + 1)))), (0, .ref h), (1, .int (nI dgs)), (2, .int (nI lo)), (3, .int (nI hi)), (5, .int (nI (i + 1)))] := by rw [← show (nI ((10 ^ i) * 10)) = (nI (10 ^ (i + 1))) from rfl]; exact hl
    refine lv_iinc (v := (nI ((i + 1) + 1))) (lv' := [(5, .int (nI ((i + 1) + 1))), (4, .int (nI (10 ^ (i + 1)))), (0, .ref h), (1, .int (nI dgs)), (2, .int (nI lo)), (3, .int (nI hi))]) hx hb dX6_readNumber_19 hl (k := 5) rfl (nI_add (i + 1) 1) (by decide) rfl (fun ls hl => ?_)
    refine lv_goto (tgt := 6) hx hb dX6_readNumber_22 (by decide) ?_
    exact ih6 (i + 1) ls ⟨lv_sub hl [2, 3, 4, 5, 1, 0] rfl, (by omega)⟩ (by first | omega | (dsimp only; omega))
set_option maxHeartbeats 4000000 in
set_option maxRecDepth 100000 in
theorem c_X6_readCorner (l : Launch) (g : va_G) (cy : Nat → ClassId) (h hs hp : Nat) (sz : Nat) (tx : Nat → Nat) (ln : Nat) (p : Nat) (lt : Nat) (pt : Nat → Nat) (pn : Nat) (htx : ∀ i9, tx i9 < 256) (hln : ln ≤ 120) (hpp : p ≤ 1000) (hpn : pn < 4) : Met l yX6_readCorner (Cond.code yX6_readCorner cX6_readCorner 1 (some .boolean) :: wsL_law) ({ frames := 2, cells := 0, slots := 0, locals := 48 } : Room) (va_Pc [.ref h] (pr g cy [(h, .inr (4, [.ref hs, .int (nI ln), .int (nI p), .int (nI lt), .ref hp, .int (nI pn)])), aI cy hs 120 (mS tx), aI cy hp 4 (mS pt)] sz)) (wr_Q (fun r : Bool × Nat × Nat => (some (.int (bI r.1)))) (fun r : Bool × Nat × Nat => (r = itF tx ln 2 0 11 p)) (fun r : Bool × Nat × Nat => [(h, .inr (4, [.ref hs, .int (nI ln), .int (nI r.2.2), .int (nI lt), .ref hp, .int (nI (if r.1 = true then pn + 1 else pn))])), aI cy hs 120 (mS tx), aI cy hp 4 (mS (if r.1 = true then up pt pn r.2.1 else pt))]) g (va_A [(h, .inr (4, [.ref hs, .int (nI ln), .int (nI p), .int (nI lt), .ref hp, .int (nI pn)])), aI cy hs 120 (mS tx), aI cy hp 4 (mS pt)] sz)) 0 0 (va_A [(h, .inr (4, [.ref hs, .int (nI ln), .int (nI p), .int (nI lt), .ref hp, .int (nI pn)])), aI cy hs 120 (mS tx), aI cy hp 4 (mS pt)] sz) := by
  refine mt_of (cc := cX6_readCorner) (maxL := 1) (ret := (some .boolean)) (by decide +kernel) (Nat.le_of_ble_eq_true rfl) ?_
  intro pX eX s mX below meth cX ls A hx hb hr hml hown hts hlk hin hsz hAe hA hP hD hK hX hl
  subst hsz
  rw [← hAe]
  clear hAe
  have hl : lv_has ls 1 [(0, .ref h)] := hl
  have hS : va_S A s.heap s.heap [] := va_S.rf
  refine lv_aload_n hx hb dX6_readCorner_0 rfl (lv_at hl 0 rfl) ?_
  refine lv_iconst (v := (nI 2)) hx hb dX6_readCorner_1 (by decide) ?_
  refine lv_iconst (v := (nI 0)) hx hb dX6_readCorner_2 (by decide) ?_
  refine lv_bipush (v := (nI 11)) hx hb dX6_readCorner_3 (by decide) ?_
  refine wr_call (wc := [(h, .inr (4, [.ref hs, .int (nI ln), .int (nI p), .int (nI lt), .ref hp, .int (nI pn)])), aI cy hs 120 (mS tx), aI cy hp 4 (mS pt)]) (va_runV (As := [.int (nI 2), .int (nI 0), .int (nI 11)]) (rest := []) ⟨hx, hb, hml, hown, hts⟩ (c_X6_readNumber l g cy h hs hp s.heap.size tx ln p lt pt pn 2 0 11 htx (by omega) (by omega) (by omega) (by omega) (by omega) (by omega) (by omega)) ⟨(cB 3 hts wd11_13 wd2_0 wd11_10 rfl rfl (by decide +kernel) ⟨Nat.le_of_ble_eq_true rfl, Nat.le_of_ble_eq_true rfl⟩), hts _ wd11_11, hts _ wd11_12⟩ (pv hK hP hD hS hA hX [0, 1, 2] rfl rfl 4 0 rfl rfl) rfl rfl hl.1 rfl (lv_room (Nat.le_of_ble_eq_true rfl)) dX6_readCorner_5 ⟨Nat.zero_le _, Nat.zero_le _⟩) hP hD hS hA [0, 1, 2] rfl rfl (fun _ => (rfl : ([h, hs, hp] : List Nat) = [h, hs, hp])) ?_
  rintro r_5 H locs hr_5 hP hD hS
  have hP : va_P g vwCl [(h, .inr (4, [.ref hs, .int (nI ln), .int (nI r_5.2.2), .int (nI lt), .ref hp, .int (nI (if r_5.1 = true then pn + 1 else pn))])), aI cy hs 120 (mS tx), aI cy hp 4 (mS (if r_5.1 = true then up pt pn r_5.2.1 else pt))] H := hP
  have hD : va_D A [(h, .inr (4, [.ref hs, .int (nI ln), .int (nI r_5.2.2), .int (nI lt), .ref hp, .int (nI (if r_5.1 = true then pn + 1 else pn))])), aI cy hs 120 (mS tx), aI cy hp 4 (mS (if r_5.1 = true then up pt pn r_5.2.1 else pt))] := hD
  have hr_5 : r_5 = itF tx ln 2 0 11 p := hr_5
  show W _ _ _ _ _ _ _ _ _ _ _ _ _ _ _ (F0 mX 8 ls [.int (bI r_5.1)])
  exact wr_z (b := r_5.1) r_5 rfl rfl hr_5 hP hS hx hb hr dX6_readCorner_8 hlk
set_option maxHeartbeats 4000000 in
set_option maxRecDepth 100000 in
theorem c_X6_readFinder (l : Launch) (g : va_G) (cy : Nat → ClassId) (h hs hp : Nat) (sz : Nat) (tx : Nat → Nat) (ln : Nat) (p : Nat) (lt : Nat) (pt : Nat → Nat) (pn : Nat) (htx : ∀ i9, tx i9 < 256) (hln : ln ≤ 120) (hpp : p ≤ 1000) (hpn : pn < 4) : Met l yX6_readFinder (Cond.code yX6_readFinder cX6_readFinder 1 (some .boolean) :: wsL_law) ({ frames := 2, cells := 0, slots := 0, locals := 48 } : Room) (va_Pc [.ref h] (pr g cy [(h, .inr (4, [.ref hs, .int (nI ln), .int (nI p), .int (nI lt), .ref hp, .int (nI pn)])), aI cy hs 120 (mS tx), aI cy hp 4 (mS pt)] sz)) (wr_Q (fun r : Bool × Nat × Nat => (some (.int (bI r.1)))) (fun r : Bool × Nat × Nat => (r = itF tx ln 1 0 7 p)) (fun r : Bool × Nat × Nat => [(h, .inr (4, [.ref hs, .int (nI ln), .int (nI r.2.2), .int (nI lt), .ref hp, .int (nI (if r.1 = true then pn + 1 else pn))])), aI cy hs 120 (mS tx), aI cy hp 4 (mS (if r.1 = true then up pt pn r.2.1 else pt))]) g (va_A [(h, .inr (4, [.ref hs, .int (nI ln), .int (nI p), .int (nI lt), .ref hp, .int (nI pn)])), aI cy hs 120 (mS tx), aI cy hp 4 (mS pt)] sz)) 0 0 (va_A [(h, .inr (4, [.ref hs, .int (nI ln), .int (nI p), .int (nI lt), .ref hp, .int (nI pn)])), aI cy hs 120 (mS tx), aI cy hp 4 (mS pt)] sz) := by
  refine mt_of (cc := cX6_readFinder) (maxL := 1) (ret := (some .boolean)) (by decide +kernel) (Nat.le_of_ble_eq_true rfl) ?_
  intro pX eX s mX below meth cX ls A hx hb hr hml hown hts hlk hin hsz hAe hA hP hD hK hX hl
  subst hsz
  rw [← hAe]
  clear hAe
  have hl : lv_has ls 1 [(0, .ref h)] := hl
  have hS : va_S A s.heap s.heap [] := va_S.rf
  refine lv_aload_n hx hb dX6_readFinder_0 rfl (lv_at hl 0 rfl) ?_
  refine lv_iconst (v := (nI 1)) hx hb dX6_readFinder_1 (by decide) ?_
  refine lv_iconst (v := (nI 0)) hx hb dX6_readFinder_2 (by decide) ?_
  refine lv_bipush (v := (nI 7)) hx hb dX6_readFinder_3 (by decide) ?_
  refine wr_call (wc := [(h, .inr (4, [.ref hs, .int (nI ln), .int (nI p), .int (nI lt), .ref hp, .int (nI pn)])), aI cy hs 120 (mS tx), aI cy hp 4 (mS pt)]) (va_runV (As := [.int (nI 1), .int (nI 0), .int (nI 7)]) (rest := []) ⟨hx, hb, hml, hown, hts⟩ (c_X6_readNumber l g cy h hs hp s.heap.size tx ln p lt pt pn 1 0 7 htx (by omega) (by omega) (by omega) (by omega) (by omega) (by omega) (by omega)) ⟨(cB 3 hts wd11_13 wd2_0 wd11_10 rfl rfl (by decide +kernel) ⟨Nat.le_of_ble_eq_true rfl, Nat.le_of_ble_eq_true rfl⟩), hts _ wd11_11, hts _ wd11_12⟩ (pv hK hP hD hS hA hX [0, 1, 2] rfl rfl 4 0 rfl rfl) rfl rfl hl.1 rfl (lv_room (Nat.le_of_ble_eq_true rfl)) dX6_readFinder_5 ⟨Nat.zero_le _, Nat.zero_le _⟩) hP hD hS hA [0, 1, 2] rfl rfl (fun _ => (rfl : ([h, hs, hp] : List Nat) = [h, hs, hp])) ?_
  rintro r_5 H locs hr_5 hP hD hS
  have hP : va_P g vwCl [(h, .inr (4, [.ref hs, .int (nI ln), .int (nI r_5.2.2), .int (nI lt), .ref hp, .int (nI (if r_5.1 = true then pn + 1 else pn))])), aI cy hs 120 (mS tx), aI cy hp 4 (mS (if r_5.1 = true then up pt pn r_5.2.1 else pt))] H := hP
  have hD : va_D A [(h, .inr (4, [.ref hs, .int (nI ln), .int (nI r_5.2.2), .int (nI lt), .ref hp, .int (nI (if r_5.1 = true then pn + 1 else pn))])), aI cy hs 120 (mS tx), aI cy hp 4 (mS (if r_5.1 = true then up pt pn r_5.2.1 else pt))] := hD
  have hr_5 : r_5 = itF tx ln 1 0 7 p := hr_5
  show W _ _ _ _ _ _ _ _ _ _ _ _ _ _ _ (F0 mX 8 ls [.int (bI r_5.1)])
  exact wr_z (b := r_5.1) r_5 rfl rfl hr_5 hP hS hx hb hr dX6_readFinder_8 hlk
set_option maxHeartbeats 4000000 in
set_option maxRecDepth 100000 in
theorem c_X6_readPlusOrMinus (l : Launch) (g : va_G) (cy : Nat → ClassId) (h hs hp : Nat) (sz : Nat) (tx : Nat → Nat) (ln : Nat) (p : Nat) (lt : Nat) (pt : Nat → Nat) (pn : Nat) (htx : ∀ i9, tx i9 < 256) (hln : ln ≤ 120) (hpp : p ≤ 1000) (hpn : pn < 4) : Met l yX6_readPlusOrMinus (Cond.code yX6_readPlusOrMinus cX6_readPlusOrMinus 2 (some .boolean) :: wsL_law) ({ frames := 1, cells := 0, slots := 0, locals := 21 } : Room) (va_Pc [.ref h] (pr g cy [(h, .inr (4, [.ref hs, .int (nI ln), .int (nI p), .int (nI lt), .ref hp, .int (nI pn)])), aI cy hs 120 (mS tx), aI cy hp 4 (mS pt)] sz)) (wr_Q (fun r : Bool × Nat × Nat => (some (.int (bI r.1)))) (fun r : Bool × Nat × Nat => (r = itF tx ln 0 0 0 p)) (fun r : Bool × Nat × Nat => [(h, .inr (4, [.ref hs, .int (nI ln), .int (nI r.2.2), .int (nI lt), .ref hp, .int (nI (if r.1 = true then pn + 1 else pn))])), aI cy hs 120 (mS tx), aI cy hp 4 (mS (if r.1 = true then up pt pn r.2.1 else pt))]) g (va_A [(h, .inr (4, [.ref hs, .int (nI ln), .int (nI p), .int (nI lt), .ref hp, .int (nI pn)])), aI cy hs 120 (mS tx), aI cy hp 4 (mS pt)] sz)) 0 0 (va_A [(h, .inr (4, [.ref hs, .int (nI ln), .int (nI p), .int (nI lt), .ref hp, .int (nI pn)])), aI cy hs 120 (mS tx), aI cy hp 4 (mS pt)] sz) := by
  refine mt_of (cc := cX6_readPlusOrMinus) (maxL := 2) (ret := (some .boolean)) (by decide +kernel) (Nat.le_of_ble_eq_true rfl) ?_
  intro pX eX s mX below meth cX ls A hx hb hr hml hown hts hlk hin hsz hAe hA hP hD hK hX hl
  subst hsz
  rw [← hAe]
  clear hAe
  have hl : lv_has ls 2 [(0, .ref h)] := hl
  have hS : va_S A s.heap s.heap [] := va_S.rf
  refine lv_aload_n hx hb dX6_readPlusOrMinus_0 rfl (lv_at hl 0 rfl) ?_
  refine rd_call (va_runV (As := []) (rest := []) ⟨hx, hb, hml, hown, hts⟩ (c_X6_signHere l g cy h hs hp s.heap.size tx ln p lt pt pn (by omega) (by omega)) ⟨(cB 0 hts wd10_23 wd2_0 wd10_20 rfl rfl (by decide +kernel) ⟨Nat.le_of_ble_eq_true rfl, Nat.le_of_ble_eq_true rfl⟩), hts _ wd10_21, hts _ wd10_22⟩ (pv hK hP hD hS hA hX [0, 1, 2] rfl rfl 4 0 rfl rfl) rfl rfl hl.1 rfl (lv_room (Nat.le_of_ble_eq_true rfl)) dX6_readPlusOrMinus_1 ⟨Nat.zero_le _, Nat.zero_le _⟩) ?_
  show W _ _ _ _ _ _ _ _ _ _ _ _ _ _ _ (F0 mX 4 ls [.int (nI (sgn tx ln p))])
  have htx9 := htx p
  by_cases hqln : p < ln
  · refine ti (show (nI (sgn tx ln p)) = (nI (tx p)) from (congrArg nI (if_pos hqln))) ?_
    refine lv_istore_n (lv' := [(1, .int (nI (tx p))), (0, .ref h)]) hx hb dX6_readPlusOrMinus_4 rfl hl (by decide) rfl (fun ls hl => ?_)
    refine lv_iload_n hx hb dX6_readPlusOrMinus_5 rfl (lv_at hl 0 rfl) ?_
    refine lv_bipush (v := (nI 43)) hx hb dX6_readPlusOrMinus_6 (by decide) ?_
    refine lv_icmp_eq (tgt := 19) hx hb dX6_readPlusOrMinus_8 (by decide) (fun c_8 => ?_) (fun c_8 => ?_)
    · have c_8 := (nc_eq9 (by omega) (by omega) c_8)
      refine lv_aload_n hx hb dX6_readPlusOrMinus_19 rfl (lv_at hl 1 rfl) ?_
      refine lv_dup hx hb dX6_readPlusOrMinus_20 rfl ?_
      refine va_get (D := g) (ci := 4) (v := .int (nI p)) (C := RX6) (T := TX6) (N := 6) hx hb hts bgX6 hown hK hP 0 rfl rfl 2 (by decide) (hts _ wd10_15) (fun _ h9 => h9) rfl dX6_readPlusOrMinus_21 ?_
      refine lv_iconst (v := (nI 1)) hx hb dX6_readPlusOrMinus_24 (by decide) ?_
      refine lv_iadd hx hb dX6_readPlusOrMinus_25 ?_
      refine ti (nI_add p 1) ?_
      refine va_put (D := g) (ci := 4) (v := .int (nI (p + 1))) (ty := .int) (C := RX6) (T := TX6) (N := 6) hx hb hts bgX6 tyX6 tyX6_ok nmX6 hown hK hP hD hS 0 rfl rfl 2 (by decide) (hts _ wd10_15) (fun _ h9 => h9) rfl (by decide +kernel) rfl rfl (Nat.le_of_ble_eq_true rfl) dX6_readPlusOrMinus_26 (fun H locs hP hD hS => ?_)
      have hP : va_P g vwCl [(h, .inr (4, [.ref hs, .int (nI ln), .int (nI (p + 1)), .int (nI lt), .ref hp, .int (nI pn)])), aI cy hs 120 (mS tx), aI cy hp 4 (mS pt)] H := hP
      have hD : va_D A [(h, .inr (4, [.ref hs, .int (nI ln), .int (nI (p + 1)), .int (nI lt), .ref hp, .int (nI pn)])), aI cy hs 120 (mS tx), aI cy hp 4 (mS pt)] := hD
      refine lv_aload_n hx hb dX6_readPlusOrMinus_29 rfl (lv_at hl 1 rfl) ?_
      refine lv_iload_n hx hb dX6_readPlusOrMinus_30 rfl (lv_at hl 0 rfl) ?_
      refine lv_bipush (v := (nI 43)) hx hb dX6_readPlusOrMinus_31 (by decide) ?_
      refine lv_icmp_ne (tgt := 40) hx hb dX6_readPlusOrMinus_33 (by decide) (fun c_33 => ?_) (fun c_33 => ?_)
      · have c_33 := (nc_ne9 (by omega) (by omega) c_33)
        exact absurd c_8 c_33
      · have c_33 := (nc_eq9 (by omega) (by omega) c_33)
        refine lv_iconst (v := (nI 1)) hx hb dX6_readPlusOrMinus_36 (by decide) ?_
        refine lv_goto (tgt := 41) hx hb dX6_readPlusOrMinus_37 (by decide) ?_
        refine wr_call (wc := [(h, .inr (4, [.ref hs, .int (nI ln), .int (nI (p + 1)), .int (nI lt), .ref hp, .int (nI pn)])), aI cy hs 120 (mS tx), aI cy hp 4 (mS pt)]) (va_runV (As := [.int (nI 1)]) (rest := []) ⟨hx, hb, hml, hown, hts⟩ (c_X6_keepPart l g cy h hs hp H.size tx ln (p + 1) lt pt pn 1 (by omega)) ⟨(cB 1 hts wd11_17 wd2_0 wd11_14 rfl rfl (by decide +kernel) ⟨Nat.le_of_ble_eq_true rfl, Nat.le_of_ble_eq_true rfl⟩), hts _ wd11_15, hts _ wd11_16⟩ (pv hK hP hD hS hA hX [0, 1, 2] rfl rfl 4 0 rfl rfl) rfl rfl hl.1 rfl (lv_room (Nat.le_of_ble_eq_true rfl)) dX6_readPlusOrMinus_41 ⟨Nat.zero_le _, Nat.zero_le _⟩) hP hD hS hA [0, 1, 2] rfl rfl (fun _ => (rfl : ([h, hs, hp] : List Nat) = [h, hs, hp])) ?_
        rintro _u9 H locs - hP hD hS
        have hP : va_P g vwCl [(h, .inr (4, [.ref hs, .int (nI ln), .int (nI (p + 1)), .int (nI lt), .ref hp, .int (nI (pn + 1))])), aI cy hs 120 (mS tx), aI cy hp 4 (mS (up pt pn 1))] H := hP
        have hD : va_D A [(h, .inr (4, [.ref hs, .int (nI ln), .int (nI (p + 1)), .int (nI lt), .ref hp, .int (nI (pn + 1))])), aI cy hs 120 (mS tx), aI cy hp 4 (mS (up pt pn 1))] := hD
        show W _ _ _ _ _ _ _ _ _ _ _ _ _ _ _ (F0 mX 44 ls [])
        refine lv_iconst (v := (nI 1)) hx hb dX6_readPlusOrMinus_44 (by decide) ?_
        exact wr_z (b := true) (true, 1, p + 1) rfl rfl (by simp [itF, plF9, hqln, c_8]) hP hS hx hb hr dX6_readPlusOrMinus_45 hlk
    · have c_8 := (nc_ne9 (by omega) (by omega) c_8)
      refine lv_iload_n hx hb dX6_readPlusOrMinus_11 rfl (lv_at hl 0 rfl) ?_
      refine lv_bipush (v := (nI 45)) hx hb dX6_readPlusOrMinus_12 (by decide) ?_
      refine lv_icmp_eq (tgt := 19) hx hb dX6_readPlusOrMinus_14 (by decide) (fun c_14 => ?_) (fun c_14 => ?_)
      · have c_14 := (nc_eq9 (by omega) (by omega) c_14)
        refine lv_aload_n hx hb dX6_readPlusOrMinus_19 rfl (lv_at hl 1 rfl) ?_
        refine lv_dup hx hb dX6_readPlusOrMinus_20 rfl ?_
        refine va_get (D := g) (ci := 4) (v := .int (nI p)) (C := RX6) (T := TX6) (N := 6) hx hb hts bgX6 hown hK hP 0 rfl rfl 2 (by decide) (hts _ wd10_15) (fun _ h9 => h9) rfl dX6_readPlusOrMinus_21 ?_
        refine lv_iconst (v := (nI 1)) hx hb dX6_readPlusOrMinus_24 (by decide) ?_
        refine lv_iadd hx hb dX6_readPlusOrMinus_25 ?_
        refine ti (nI_add p 1) ?_
        refine va_put (D := g) (ci := 4) (v := .int (nI (p + 1))) (ty := .int) (C := RX6) (T := TX6) (N := 6) hx hb hts bgX6 tyX6 tyX6_ok nmX6 hown hK hP hD hS 0 rfl rfl 2 (by decide) (hts _ wd10_15) (fun _ h9 => h9) rfl (by decide +kernel) rfl rfl (Nat.le_of_ble_eq_true rfl) dX6_readPlusOrMinus_26 (fun H locs hP hD hS => ?_)
        have hP : va_P g vwCl [(h, .inr (4, [.ref hs, .int (nI ln), .int (nI (p + 1)), .int (nI lt), .ref hp, .int (nI pn)])), aI cy hs 120 (mS tx), aI cy hp 4 (mS pt)] H := hP
        have hD : va_D A [(h, .inr (4, [.ref hs, .int (nI ln), .int (nI (p + 1)), .int (nI lt), .ref hp, .int (nI pn)])), aI cy hs 120 (mS tx), aI cy hp 4 (mS pt)] := hD
        refine lv_aload_n hx hb dX6_readPlusOrMinus_29 rfl (lv_at hl 1 rfl) ?_
        refine lv_iload_n hx hb dX6_readPlusOrMinus_30 rfl (lv_at hl 0 rfl) ?_
        refine lv_bipush (v := (nI 43)) hx hb dX6_readPlusOrMinus_31 (by decide) ?_
        refine lv_icmp_ne (tgt := 40) hx hb dX6_readPlusOrMinus_33 (by decide) (fun c_33 => ?_) (fun c_33 => ?_)
        · have c_33 := (nc_ne9 (by omega) (by omega) c_33)
          refine lv_iconst (v := (nI 0)) hx hb dX6_readPlusOrMinus_40 (by decide) ?_
          refine wr_call (wc := [(h, .inr (4, [.ref hs, .int (nI ln), .int (nI (p + 1)), .int (nI lt), .ref hp, .int (nI pn)])), aI cy hs 120 (mS tx), aI cy hp 4 (mS pt)]) (va_runV (As := [.int (nI 0)]) (rest := []) ⟨hx, hb, hml, hown, hts⟩ (c_X6_keepPart l g cy h hs hp H.size tx ln (p + 1) lt pt pn 0 (by omega)) ⟨(cB 1 hts wd11_17 wd2_0 wd11_14 rfl rfl (by decide +kernel) ⟨Nat.le_of_ble_eq_true rfl, Nat.le_of_ble_eq_true rfl⟩), hts _ wd11_15, hts _ wd11_16⟩ (pv hK hP hD hS hA hX [0, 1, 2] rfl rfl 4 0 rfl rfl) rfl rfl hl.1 rfl (lv_room (Nat.le_of_ble_eq_true rfl)) dX6_readPlusOrMinus_41 ⟨Nat.zero_le _, Nat.zero_le _⟩) hP hD hS hA [0, 1, 2] rfl rfl (fun _ => (rfl : ([h, hs, hp] : List Nat) = [h, hs, hp])) ?_
          rintro _u9 H locs - hP hD hS
          have hP : va_P g vwCl [(h, .inr (4, [.ref hs, .int (nI ln), .int (nI (p + 1)), .int (nI lt), .ref hp, .int (nI (pn + 1))])), aI cy hs 120 (mS tx), aI cy hp 4 (mS (up pt pn 0))] H := hP
          have hD : va_D A [(h, .inr (4, [.ref hs, .int (nI ln), .int (nI (p + 1)), .int (nI lt), .ref hp, .int (nI (pn + 1))])), aI cy hs 120 (mS tx), aI cy hp 4 (mS (up pt pn 0))] := hD
          show W _ _ _ _ _ _ _ _ _ _ _ _ _ _ _ (F0 mX 44 ls [])
          refine lv_iconst (v := (nI 1)) hx hb dX6_readPlusOrMinus_44 (by decide) ?_
          exact wr_z (b := true) (true, 0, p + 1) rfl rfl (by simp [itF, plF9, hqln, c_8, c_14]) hP hS hx hb hr dX6_readPlusOrMinus_45 hlk
        · have c_33 := (nc_eq9 (by omega) (by omega) c_33)
          exact absurd c_33 c_8
      · have c_14 := (nc_ne9 (by omega) (by omega) c_14)
        refine lv_iconst (v := (nI 0)) hx hb dX6_readPlusOrMinus_17 (by decide) ?_
        exact wr_z (b := false) (false, 0, p) rfl rfl (by simp [itF, plF9, hqln, c_8, c_14]) hP hS hx hb hr dX6_readPlusOrMinus_18 hlk
  · refine ti (show (nI (sgn tx ln p)) = (-1) from (by rw [show sgn tx ln p = NN from if_neg hqln, nI_NN])) ?_
    refine lv_istore_n (lv' := [(1, .int (-1)), (0, .ref h)]) hx hb dX6_readPlusOrMinus_4 rfl hl (by decide) rfl (fun ls hl => ?_)
    refine lv_iload_n hx hb dX6_readPlusOrMinus_5 rfl (lv_at hl 0 rfl) ?_
    refine lv_bipush (v := (nI 43)) hx hb dX6_readPlusOrMinus_6 (by decide) ?_
    refine lv_icmp_eq (tgt := 19) hx hb dX6_readPlusOrMinus_8 (by decide) (fun c_8 => ?_) (fun c_8 => ?_)
    · skip
      exact absurd c_8 (by decide)
    · skip
      refine lv_iload_n hx hb dX6_readPlusOrMinus_11 rfl (lv_at hl 0 rfl) ?_
      refine lv_bipush (v := (nI 45)) hx hb dX6_readPlusOrMinus_12 (by decide) ?_
      refine lv_icmp_eq (tgt := 19) hx hb dX6_readPlusOrMinus_14 (by decide) (fun c_14 => ?_) (fun c_14 => ?_)
      · skip
        exact absurd c_14 (by decide)
      · skip
        refine lv_iconst (v := (nI 0)) hx hb dX6_readPlusOrMinus_17 (by decide) ?_
        exact wr_z (b := false) (false, 0, p) rfl rfl (by simp [itF, plF9, hqln, c_8, c_14]) hP hS hx hb hr dX6_readPlusOrMinus_18 hlk
set_option maxHeartbeats 4000000 in
set_option maxRecDepth 100000 in
theorem c_X6_readCommand (l : Launch) (g : va_G) (cy : Nat → ClassId) (h hs hp : Nat) (sz : Nat) (tx : Nat → Nat) (ln : Nat) (p : Nat) (lt : Nat) (pt : Nat → Nat) (pn : Nat) (htx : ∀ i9, tx i9 < 256) (hln : ln ≤ 120) (hpp : p ≤ 120) : Met l yX6_readCommand (Cond.code yX6_readCommand cX6_readCommand 1 (some .boolean) :: wsL_law) ({ frames := 3, cells := 0, slots := 0, locals := 68 } : Room) (va_Pc [.ref h] (pr g cy [(h, .inr (4, [.ref hs, .int (nI ln), .int (nI p), .int (nI lt), .ref hp, .int (nI pn)])), aI cy hs 120 (mS tx), aI cy hp 4 (mS pt)] sz)) (wr_Q (fun u9 : (Bool × Nat × (Nat → Nat)) × (Nat) => (some (.int (bI u9.1.1)))) (fun u9 : (Bool × Nat × (Nat → Nat)) × (Nat) => (u9.1 = cmdF tx ln p pt) ∧ (u9.1.1 = true → u9.2 = npt (sgn tx ln p))) (fun u9 : (Bool × Nat × (Nat → Nat)) × (Nat) => [(h, .inr (4, [.ref hs, .int (nI ln), .int (nI u9.1.2.1), .int (nI (sgn tx ln p)), .ref hp, .int (nI u9.2)])), aI cy hs 120 (mS tx), aI cy hp 4 (mS u9.1.2.2)]) g (va_A [(h, .inr (4, [.ref hs, .int (nI ln), .int (nI p), .int (nI lt), .ref hp, .int (nI pn)])), aI cy hs 120 (mS tx), aI cy hp 4 (mS pt)] sz)) 0 0 (va_A [(h, .inr (4, [.ref hs, .int (nI ln), .int (nI p), .int (nI lt), .ref hp, .int (nI pn)])), aI cy hs 120 (mS tx), aI cy hp 4 (mS pt)] sz) := by
  refine mt_of (cc := cX6_readCommand) (maxL := 1) (ret := (some .boolean)) (by decide +kernel) (Nat.le_of_ble_eq_true rfl) ?_
  intro pX eX s mX below meth cX ls A hx hb hr hml hown hts hlk hin hsz hAe hA hP hD hK hX hl
  subst hsz
  rw [← hAe]
  clear hAe
  have hl : lv_has ls 1 [(0, .ref h)] := hl
  have hS : va_S A s.heap s.heap [] := va_S.rf
  refine lv_aload_n hx hb dX6_readCommand_0 rfl (lv_at hl 0 rfl) ?_
  refine lv_aload_n hx hb dX6_readCommand_1 rfl (lv_at hl 0 rfl) ?_
  refine rd_call (va_runV (As := []) (rest := [.ref h]) ⟨hx, hb, hml, hown, hts⟩ (c_X6_signHere l g cy h hs hp s.heap.size tx ln p lt pt pn (by omega) (by omega)) ⟨(cB 0 hts wd10_23 wd2_0 wd10_20 rfl rfl (by decide +kernel) ⟨Nat.le_of_ble_eq_true rfl, Nat.le_of_ble_eq_true rfl⟩), hts _ wd10_21, hts _ wd10_22⟩ (pv hK hP hD hS hA hX [0, 1, 2] rfl rfl 4 0 rfl rfl) rfl rfl hl.1 rfl (lv_room (Nat.le_of_ble_eq_true rfl)) dX6_readCommand_2 ⟨Nat.zero_le _, Nat.zero_le _⟩) ?_
  show W _ _ _ _ _ _ _ _ _ _ _ _ _ _ _ (F0 mX 5 ls [.int (nI (sgn tx ln p)), .ref h])
  refine va_put (D := g) (ci := 4) (v := .int (nI (sgn tx ln p))) (ty := .int) (C := RX6) (T := TX6) (N := 6) hx hb hts bgX6 tyX6 tyX6_ok nmX6 hown hK hP hD hS 0 rfl rfl 3 (by decide) (hts _ wd11_8) (fun _ h9 => h9) rfl (by decide +kernel) rfl rfl (Nat.le_of_ble_eq_true rfl) dX6_readCommand_5 (fun H locs hP hD hS => ?_)
  have hP : va_P g vwCl [(h, .inr (4, [.ref hs, .int (nI ln), .int (nI p), .int (nI (sgn tx ln p)), .ref hp, .int (nI pn)])), aI cy hs 120 (mS tx), aI cy hp 4 (mS pt)] H := hP
  have hD : va_D A [(h, .inr (4, [.ref hs, .int (nI ln), .int (nI p), .int (nI (sgn tx ln p)), .ref hp, .int (nI pn)])), aI cy hs 120 (mS tx), aI cy hp 4 (mS pt)] := hD
  refine lv_aload_n hx hb dX6_readCommand_8 rfl (lv_at hl 0 rfl) ?_
  refine lv_iconst (v := (nI 0)) hx hb dX6_readCommand_9 (by decide) ?_
  refine va_put (D := g) (ci := 4) (v := .int (nI 0)) (ty := .int) (C := RX6) (T := TX6) (N := 6) hx hb hts bgX6 tyX6 tyX6_ok nmX6 hown hK hP hD hS 0 rfl rfl 5 (by decide) (hts _ wd11_9) (fun _ h9 => h9) rfl (by decide +kernel) rfl rfl (Nat.le_of_ble_eq_true rfl) dX6_readCommand_10 (fun H locs hP hD hS => ?_)
  have hP : va_P g vwCl [(h, .inr (4, [.ref hs, .int (nI ln), .int (nI p), .int (nI (sgn tx ln p)), .ref hp, .int (nI 0)])), aI cy hs 120 (mS tx), aI cy hp 4 (mS pt)] H := hP
  have hD : va_D A [(h, .inr (4, [.ref hs, .int (nI ln), .int (nI p), .int (nI (sgn tx ln p)), .ref hp, .int (nI 0)])), aI cy hs 120 (mS tx), aI cy hp 4 (mS pt)] := hD
  refine lv_aload_n hx hb dX6_readCommand_13 rfl (lv_at hl 0 rfl) ?_
  refine va_get (D := g) (ci := 4) (v := .int (nI (sgn tx ln p))) (C := RX6) (T := TX6) (N := 6) hx hb hts bgX6 hown hK hP 0 rfl rfl 3 (by decide) (hts _ wd11_8) (fun _ h9 => h9) rfl dX6_readCommand_14 ?_
  have hlt9 : sgn tx ln p < 2 ^ 32 := by unfold sgn; split; have := htx p; omega; decide
  by_cases c_17_100 : (nI (sgn tx ln p)) = nI 100
  · refine lv_lookup (tgt := 68) (off := 51) hx hb dX6_readCommand_17 rfl (by rw [c_17_100]; decide) (by decide) ?_
    have h9_0 : cmdF tx ln p pt = rdL tx ln lsD9 (p + 1) 0 pt := by unfold cmdF; rw [if_pos c_17_100]
    refine lv_aload_n hx hb dX6_readCommand_68 rfl (lv_at hl 0 rfl) ?_
    refine lv_dup hx hb dX6_readCommand_69 rfl ?_
    refine va_get (D := g) (ci := 4) (v := .int (nI p)) (C := RX6) (T := TX6) (N := 6) hx hb hts bgX6 hown hK hP 0 rfl rfl 2 (by decide) (hts _ wd10_15) (fun _ h9 => h9) rfl dX6_readCommand_70 ?_
    refine lv_iconst (v := (nI 1)) hx hb dX6_readCommand_73 (by decide) ?_
    refine lv_iadd hx hb dX6_readCommand_74 ?_
    refine ti (nI_add p 1) ?_
    refine va_put (D := g) (ci := 4) (v := .int (nI (p + 1))) (ty := .int) (C := RX6) (T := TX6) (N := 6) hx hb hts bgX6 tyX6 tyX6_ok nmX6 hown hK hP hD hS 0 rfl rfl 2 (by decide) (hts _ wd10_15) (fun _ h9 => h9) rfl (by decide +kernel) rfl rfl (Nat.le_of_ble_eq_true rfl) dX6_readCommand_75 (fun H locs hP hD hS => ?_)
    have hP : va_P g vwCl [(h, .inr (4, [.ref hs, .int (nI ln), .int (nI (p + 1)), .int (nI (sgn tx ln p)), .ref hp, .int (nI 0)])), aI cy hs 120 (mS tx), aI cy hp 4 (mS pt)] H := hP
    have hD : va_D A [(h, .inr (4, [.ref hs, .int (nI ln), .int (nI (p + 1)), .int (nI (sgn tx ln p)), .ref hp, .int (nI 0)])), aI cy hs 120 (mS tx), aI cy hp 4 (mS pt)] := hD
    refine lv_aload_n hx hb dX6_readCommand_78 rfl (lv_at hl 0 rfl) ?_
    refine lv_iconst (v := (nI 3)) hx hb dX6_readCommand_79 (by decide) ?_
    refine lv_iconst (v := (nI 1)) hx hb dX6_readCommand_80 (by decide) ?_
    refine lv_sipush (v := (nI 255)) hx hb dX6_readCommand_81 (by decide) ?_
    refine wr_call (wc := [(h, .inr (4, [.ref hs, .int (nI ln), .int (nI (p + 1)), .int (nI (sgn tx ln p)), .ref hp, .int (nI 0)])), aI cy hs 120 (mS tx), aI cy hp 4 (mS pt)]) (va_runV (As := [.int (nI 3), .int (nI 1), .int (nI 255)]) (rest := []) ⟨hx, hb, hml, hown, hts⟩ (c_X6_readNumber l g cy h hs hp H.size tx ln (p + 1) (sgn tx ln p) pt 0 3 1 255 htx (by omega) (by omega) (by omega) (by omega) (by omega) (by omega) (by omega)) ⟨(cB 3 hts wd11_13 wd2_0 wd11_10 rfl rfl (by decide +kernel) ⟨Nat.le_of_ble_eq_true rfl, Nat.le_of_ble_eq_true rfl⟩), hts _ wd11_11, hts _ wd11_12⟩ (pv hK hP hD hS hA hX [0, 1, 2] rfl rfl 4 0 rfl rfl) rfl rfl hl.1 rfl (lv_room (Nat.le_of_ble_eq_true rfl)) dX6_readCommand_84 ⟨Nat.zero_le _, Nat.zero_le _⟩) hP hD hS hA [0, 1, 2] rfl rfl (fun _ => (rfl : ([h, hs, hp] : List Nat) = [h, hs, hp])) ?_
    rintro r_84 H locs hr_84 hP hD hS
    have hP : va_P g vwCl [(h, .inr (4, [.ref hs, .int (nI ln), .int (nI r_84.2.2), .int (nI (sgn tx ln p)), .ref hp, .int (nI (if r_84.1 = true then 0 + 1 else 0))])), aI cy hs 120 (mS tx), aI cy hp 4 (mS (if r_84.1 = true then up pt 0 r_84.2.1 else pt))] H := hP
    have hD : va_D A [(h, .inr (4, [.ref hs, .int (nI ln), .int (nI r_84.2.2), .int (nI (sgn tx ln p)), .ref hp, .int (nI (if r_84.1 = true then 0 + 1 else 0))])), aI cy hs 120 (mS tx), aI cy hp 4 (mS (if r_84.1 = true then up pt 0 r_84.2.1 else pt))] := hD
    have hr_84 : r_84 = itF tx ln 3 1 255 (p + 1) := hr_84
    show W _ _ _ _ _ _ _ _ _ _ _ _ _ _ _ (F0 mX 87 ls [.int (bI r_84.1)])
    have hp9_0 := itF_p (tx := tx) (ln := ln) (d := 3) (lo := 1) (hi := 255) (p := p + 1)
    rw [← hr_84] at hp9_0
    refine lv_if_eq (tgt := 123) hx hb dX6_readCommand_87 (by decide) (fun c_87 => ?_) (fun c_87 => ?_)
    · have c_87 := (bI_eq0.mp c_87)
      have hf9 : cmdF tx ln p pt = (false, r_84.2.2, pt) := h9_0.trans (rdL_no hr_84 c_87)
      rw [show (mS (if r_84.1 = true then up pt 0 r_84.2.1 else pt)) = (mS pt) from (by rw [if_neg (by rw [c_87]; decide)])] at hP hD
      rw [show (nI (if r_84.1 = true then 0 + 1 else 0)) = (nI 0) from (by rw [if_neg (by rw [c_87]; decide)])] at hP hD
      refine lv_iconst (v := (nI 0)) hx hb dX6_readCommand_123 (by decide) ?_
      exact wr_z (b := false) (cmdF tx ln p pt, 0) rfl (by rw [hf9]) ⟨rfl, (fun c9 => absurd (show (cmdF tx ln p pt).1 = true from c9) (by rw [hf9]; exact Bool.false_ne_true))⟩ (by rw [hf9]; exact hP) hS hx hb hr dX6_readCommand_124 hlk
    · have c_87 := (bI_ne0.mp c_87)
      have h9_1 := h9_0.trans (rdL_yes hr_84 c_87)
      rw [show (mS (if r_84.1 = true then up pt 0 r_84.2.1 else pt)) = (mS (up pt 0 r_84.2.1)) from (by rw [if_pos c_87])] at hP hD
      rw [show (nI (if r_84.1 = true then 0 + 1 else 0)) = (nI 1) from (by rw [if_pos c_87])] at hP hD
      refine lv_aload_n hx hb dX6_readCommand_90 rfl (lv_at hl 0 rfl) ?_
      refine lv_iconst (v := (nI 1)) hx hb dX6_readCommand_91 (by decide) ?_
      refine lv_iconst (v := (nI 1)) hx hb dX6_readCommand_92 (by decide) ?_
      refine lv_iconst (v := (nI 3)) hx hb dX6_readCommand_93 (by decide) ?_
      refine wr_call (wc := [(h, .inr (4, [.ref hs, .int (nI ln), .int (nI r_84.2.2), .int (nI (sgn tx ln p)), .ref hp, .int (nI 1)])), aI cy hs 120 (mS tx), aI cy hp 4 (mS (up pt 0 r_84.2.1))]) (va_runV (As := [.int (nI 1), .int (nI 1), .int (nI 3)]) (rest := []) ⟨hx, hb, hml, hown, hts⟩ (c_X6_readNumber l g cy h hs hp H.size tx ln r_84.2.2 (sgn tx ln p) (up pt 0 r_84.2.1) 1 1 1 3 htx (by omega) (by omega) (by omega) (by omega) (by omega) (by omega) (by omega)) ⟨(cB 3 hts wd11_13 wd2_0 wd11_10 rfl rfl (by decide +kernel) ⟨Nat.le_of_ble_eq_true rfl, Nat.le_of_ble_eq_true rfl⟩), hts _ wd11_11, hts _ wd11_12⟩ (pv hK hP hD hS hA hX [0, 1, 2] rfl rfl 4 0 rfl rfl) rfl rfl hl.1 rfl (lv_room (Nat.le_of_ble_eq_true rfl)) dX6_readCommand_94 ⟨Nat.zero_le _, Nat.zero_le _⟩) hP hD hS hA [0, 1, 2] rfl rfl (fun _ => (rfl : ([h, hs, hp] : List Nat) = [h, hs, hp])) ?_
      rintro r_94 H locs hr_94 hP hD hS
      have hP : va_P g vwCl [(h, .inr (4, [.ref hs, .int (nI ln), .int (nI r_94.2.2), .int (nI (sgn tx ln p)), .ref hp, .int (nI (if r_94.1 = true then 1 + 1 else 1))])), aI cy hs 120 (mS tx), aI cy hp 4 (mS (if r_94.1 = true then up (up pt 0 r_84.2.1) 1 r_94.2.1 else (up pt 0 r_84.2.1)))] H := hP
      have hD : va_D A [(h, .inr (4, [.ref hs, .int (nI ln), .int (nI r_94.2.2), .int (nI (sgn tx ln p)), .ref hp, .int (nI (if r_94.1 = true then 1 + 1 else 1))])), aI cy hs 120 (mS tx), aI cy hp 4 (mS (if r_94.1 = true then up (up pt 0 r_84.2.1) 1 r_94.2.1 else (up pt 0 r_84.2.1)))] := hD
      have hr_94 : r_94 = itF tx ln 1 1 3 r_84.2.2 := hr_94
      show W _ _ _ _ _ _ _ _ _ _ _ _ _ _ _ (F0 mX 97 ls [.int (bI r_94.1)])
      have hp9_1 := itF_p (tx := tx) (ln := ln) (d := 1) (lo := 1) (hi := 3) (p := r_84.2.2)
      rw [← hr_94] at hp9_1
      refine lv_if_eq (tgt := 123) hx hb dX6_readCommand_97 (by decide) (fun c_97 => ?_) (fun c_97 => ?_)
      · have c_97 := (bI_eq0.mp c_97)
        have hf9 : cmdF tx ln p pt = (false, r_94.2.2, up pt 0 r_84.2.1) := h9_1.trans (rdL_no hr_94 c_97)
        rw [show (mS (if r_94.1 = true then up (up pt 0 r_84.2.1) 1 r_94.2.1 else (up pt 0 r_84.2.1))) = (mS (up pt 0 r_84.2.1)) from (by rw [if_neg (by rw [c_97]; decide)])] at hP hD
        rw [show (nI (if r_94.1 = true then 1 + 1 else 1)) = (nI 1) from (by rw [if_neg (by rw [c_97]; decide)])] at hP hD
        refine lv_iconst (v := (nI 0)) hx hb dX6_readCommand_123 (by decide) ?_
        exact wr_z (b := false) (cmdF tx ln p pt, 1) rfl (by rw [hf9]) ⟨rfl, (fun c9 => absurd (show (cmdF tx ln p pt).1 = true from c9) (by rw [hf9]; exact Bool.false_ne_true))⟩ (by rw [hf9]; exact hP) hS hx hb hr dX6_readCommand_124 hlk
      · have c_97 := (bI_ne0.mp c_97)
        have h9_2 := h9_1.trans (rdL_yes hr_94 c_97)
        rw [show (mS (if r_94.1 = true then up (up pt 0 r_84.2.1) 1 r_94.2.1 else (up pt 0 r_84.2.1))) = (mS (up (up pt 0 r_84.2.1) 1 r_94.2.1)) from (by rw [if_pos c_97])] at hP hD
        rw [show (nI (if r_94.1 = true then 1 + 1 else 1)) = (nI 2) from (by rw [if_pos c_97])] at hP hD
        refine lv_aload_n hx hb dX6_readCommand_100 rfl (lv_at hl 0 rfl) ?_
        refine wr_call (wc := [(h, .inr (4, [.ref hs, .int (nI ln), .int (nI r_94.2.2), .int (nI (sgn tx ln p)), .ref hp, .int (nI 2)])), aI cy hs 120 (mS tx), aI cy hp 4 (mS (up (up pt 0 r_84.2.1) 1 r_94.2.1))]) (va_runV (As := []) (rest := []) ⟨hx, hb, hml, hown, hts⟩ (c_X6_readCorner l g cy h hs hp H.size tx ln r_94.2.2 (sgn tx ln p) (up (up pt 0 r_84.2.1) 1 r_94.2.1) 2 htx (by omega) (by omega) (by omega)) ⟨(cB 0 hts wd11_21 wd2_0 wd11_18 rfl rfl (by decide +kernel) ⟨Nat.le_of_ble_eq_true rfl, Nat.le_of_ble_eq_true rfl⟩), hts _ wd11_19, hts _ wd11_20⟩ (pv hK hP hD hS hA hX [0, 1, 2] rfl rfl 4 0 rfl rfl) rfl rfl hl.1 rfl (lv_room (Nat.le_of_ble_eq_true rfl)) dX6_readCommand_101 ⟨Nat.zero_le _, Nat.zero_le _⟩) hP hD hS hA [0, 1, 2] rfl rfl (fun _ => (rfl : ([h, hs, hp] : List Nat) = [h, hs, hp])) ?_
        rintro r_101 H locs hr_101 hP hD hS
        have hP : va_P g vwCl [(h, .inr (4, [.ref hs, .int (nI ln), .int (nI r_101.2.2), .int (nI (sgn tx ln p)), .ref hp, .int (nI (if r_101.1 = true then 2 + 1 else 2))])), aI cy hs 120 (mS tx), aI cy hp 4 (mS (if r_101.1 = true then up (up (up pt 0 r_84.2.1) 1 r_94.2.1) 2 r_101.2.1 else (up (up pt 0 r_84.2.1) 1 r_94.2.1)))] H := hP
        have hD : va_D A [(h, .inr (4, [.ref hs, .int (nI ln), .int (nI r_101.2.2), .int (nI (sgn tx ln p)), .ref hp, .int (nI (if r_101.1 = true then 2 + 1 else 2))])), aI cy hs 120 (mS tx), aI cy hp 4 (mS (if r_101.1 = true then up (up (up pt 0 r_84.2.1) 1 r_94.2.1) 2 r_101.2.1 else (up (up pt 0 r_84.2.1) 1 r_94.2.1)))] := hD
        have hr_101 : r_101 = itF tx ln 2 0 11 r_94.2.2 := hr_101
        show W _ _ _ _ _ _ _ _ _ _ _ _ _ _ _ (F0 mX 104 ls [.int (bI r_101.1)])
        have hp9_2 := itF_p (tx := tx) (ln := ln) (d := 2) (lo := 0) (hi := 11) (p := r_94.2.2)
        rw [← hr_101] at hp9_2
        refine lv_if_eq (tgt := 123) hx hb dX6_readCommand_104 (by decide) (fun c_104 => ?_) (fun c_104 => ?_)
        · have c_104 := (bI_eq0.mp c_104)
          have hf9 : cmdF tx ln p pt = (false, r_101.2.2, up (up pt 0 r_84.2.1) 1 r_94.2.1) := h9_2.trans (rdL_no hr_101 c_104)
          rw [show (mS (if r_101.1 = true then up (up (up pt 0 r_84.2.1) 1 r_94.2.1) 2 r_101.2.1 else (up (up pt 0 r_84.2.1) 1 r_94.2.1))) = (mS (up (up pt 0 r_84.2.1) 1 r_94.2.1)) from (by rw [if_neg (by rw [c_104]; decide)])] at hP hD
          rw [show (nI (if r_101.1 = true then 2 + 1 else 2)) = (nI 2) from (by rw [if_neg (by rw [c_104]; decide)])] at hP hD
          refine lv_iconst (v := (nI 0)) hx hb dX6_readCommand_123 (by decide) ?_
          exact wr_z (b := false) (cmdF tx ln p pt, 2) rfl (by rw [hf9]) ⟨rfl, (fun c9 => absurd (show (cmdF tx ln p pt).1 = true from c9) (by rw [hf9]; exact Bool.false_ne_true))⟩ (by rw [hf9]; exact hP) hS hx hb hr dX6_readCommand_124 hlk
        · have c_104 := (bI_ne0.mp c_104)
          have h9_3 := h9_2.trans (rdL_yes hr_101 c_104)
          rw [show (mS (if r_101.1 = true then up (up (up pt 0 r_84.2.1) 1 r_94.2.1) 2 r_101.2.1 else (up (up pt 0 r_84.2.1) 1 r_94.2.1))) = (mS (up (up (up pt 0 r_84.2.1) 1 r_94.2.1) 2 r_101.2.1)) from (by rw [if_pos c_104])] at hP hD
          rw [show (nI (if r_101.1 = true then 2 + 1 else 2)) = (nI 3) from (by rw [if_pos c_104])] at hP hD
          refine lv_aload_n hx hb dX6_readCommand_107 rfl (lv_at hl 0 rfl) ?_
          refine lv_iconst (v := (nI 3)) hx hb dX6_readCommand_108 (by decide) ?_
          refine lv_iconst (v := (nI 1)) hx hb dX6_readCommand_109 (by decide) ?_
          refine lv_sipush (v := (nI 500)) hx hb dX6_readCommand_110 (by decide) ?_
          refine wr_call (wc := [(h, .inr (4, [.ref hs, .int (nI ln), .int (nI r_101.2.2), .int (nI (sgn tx ln p)), .ref hp, .int (nI 3)])), aI cy hs 120 (mS tx), aI cy hp 4 (mS (up (up (up pt 0 r_84.2.1) 1 r_94.2.1) 2 r_101.2.1))]) (va_runV (As := [.int (nI 3), .int (nI 1), .int (nI 500)]) (rest := []) ⟨hx, hb, hml, hown, hts⟩ (c_X6_readNumber l g cy h hs hp H.size tx ln r_101.2.2 (sgn tx ln p) (up (up (up pt 0 r_84.2.1) 1 r_94.2.1) 2 r_101.2.1) 3 3 1 500 htx (by omega) (by omega) (by omega) (by omega) (by omega) (by omega) (by omega)) ⟨(cB 3 hts wd11_13 wd2_0 wd11_10 rfl rfl (by decide +kernel) ⟨Nat.le_of_ble_eq_true rfl, Nat.le_of_ble_eq_true rfl⟩), hts _ wd11_11, hts _ wd11_12⟩ (pv hK hP hD hS hA hX [0, 1, 2] rfl rfl 4 0 rfl rfl) rfl rfl hl.1 rfl (lv_room (Nat.le_of_ble_eq_true rfl)) dX6_readCommand_113 ⟨Nat.zero_le _, Nat.zero_le _⟩) hP hD hS hA [0, 1, 2] rfl rfl (fun _ => (rfl : ([h, hs, hp] : List Nat) = [h, hs, hp])) ?_
          rintro r_113 H locs hr_113 hP hD hS
          have hP : va_P g vwCl [(h, .inr (4, [.ref hs, .int (nI ln), .int (nI r_113.2.2), .int (nI (sgn tx ln p)), .ref hp, .int (nI (if r_113.1 = true then 3 + 1 else 3))])), aI cy hs 120 (mS tx), aI cy hp 4 (mS (if r_113.1 = true then up (up (up (up pt 0 r_84.2.1) 1 r_94.2.1) 2 r_101.2.1) 3 r_113.2.1 else (up (up (up pt 0 r_84.2.1) 1 r_94.2.1) 2 r_101.2.1)))] H := hP
          have hD : va_D A [(h, .inr (4, [.ref hs, .int (nI ln), .int (nI r_113.2.2), .int (nI (sgn tx ln p)), .ref hp, .int (nI (if r_113.1 = true then 3 + 1 else 3))])), aI cy hs 120 (mS tx), aI cy hp 4 (mS (if r_113.1 = true then up (up (up (up pt 0 r_84.2.1) 1 r_94.2.1) 2 r_101.2.1) 3 r_113.2.1 else (up (up (up pt 0 r_84.2.1) 1 r_94.2.1) 2 r_101.2.1)))] := hD
          have hr_113 : r_113 = itF tx ln 3 1 500 r_101.2.2 := hr_113
          show W _ _ _ _ _ _ _ _ _ _ _ _ _ _ _ (F0 mX 116 ls [.int (bI r_113.1)])
          have hp9_3 := itF_p (tx := tx) (ln := ln) (d := 3) (lo := 1) (hi := 500) (p := r_101.2.2)
          rw [← hr_113] at hp9_3
          refine lv_if_eq (tgt := 123) hx hb dX6_readCommand_116 (by decide) (fun c_116 => ?_) (fun c_116 => ?_)
          · have c_116 := (bI_eq0.mp c_116)
            have hf9 : cmdF tx ln p pt = (false, r_113.2.2, up (up (up pt 0 r_84.2.1) 1 r_94.2.1) 2 r_101.2.1) := h9_3.trans (rdL_no hr_113 c_116)
            rw [show (mS (if r_113.1 = true then up (up (up (up pt 0 r_84.2.1) 1 r_94.2.1) 2 r_101.2.1) 3 r_113.2.1 else (up (up (up pt 0 r_84.2.1) 1 r_94.2.1) 2 r_101.2.1))) = (mS (up (up (up pt 0 r_84.2.1) 1 r_94.2.1) 2 r_101.2.1)) from (by rw [if_neg (by rw [c_116]; decide)])] at hP hD
            rw [show (nI (if r_113.1 = true then 3 + 1 else 3)) = (nI 3) from (by rw [if_neg (by rw [c_116]; decide)])] at hP hD
            refine lv_iconst (v := (nI 0)) hx hb dX6_readCommand_123 (by decide) ?_
            exact wr_z (b := false) (cmdF tx ln p pt, 3) rfl (by rw [hf9]) ⟨rfl, (fun c9 => absurd (show (cmdF tx ln p pt).1 = true from c9) (by rw [hf9]; exact Bool.false_ne_true))⟩ (by rw [hf9]; exact hP) hS hx hb hr dX6_readCommand_124 hlk
          · have c_116 := (bI_ne0.mp c_116)
            have h9_4 := h9_3.trans (rdL_yes hr_113 c_116)
            have hf9 : cmdF tx ln p pt = (true, r_113.2.2, up (up (up (up pt 0 r_84.2.1) 1 r_94.2.1) 2 r_101.2.1) 3 r_113.2.1) := h9_4
            rw [show (mS (if r_113.1 = true then up (up (up (up pt 0 r_84.2.1) 1 r_94.2.1) 2 r_101.2.1) 3 r_113.2.1 else (up (up (up pt 0 r_84.2.1) 1 r_94.2.1) 2 r_101.2.1))) = (mS (up (up (up (up pt 0 r_84.2.1) 1 r_94.2.1) 2 r_101.2.1) 3 r_113.2.1)) from (by rw [if_pos c_116])] at hP hD
            rw [show (nI (if r_113.1 = true then 3 + 1 else 3)) = (nI 4) from (by rw [if_pos c_116])] at hP hD
            refine lv_iconst (v := (nI 1)) hx hb dX6_readCommand_119 (by decide) ?_
            refine lv_goto (tgt := 124) hx hb dX6_readCommand_120 (by decide) ?_
            exact wr_z (b := true) (cmdF tx ln p pt, 4) rfl (by rw [hf9]) ⟨rfl, (fun _ => by unfold npt; rw [if_pos c_17_100])⟩ (by rw [hf9]; exact hP) hS hx hb hr dX6_readCommand_124 hlk
  · skip
    by_cases c_17_102 : (nI (sgn tx ln p)) = nI 102
    · refine lv_lookup (tgt := 174) (off := 157) hx hb dX6_readCommand_17 rfl (by rw [c_17_102]; decide) (by decide) ?_
      have h9_0 : cmdF tx ln p pt = rdL tx ln lsF9 (p + 1) 0 pt := by unfold cmdF; rw [if_neg c_17_100, if_pos c_17_102]
      refine lv_aload_n hx hb dX6_readCommand_174 rfl (lv_at hl 0 rfl) ?_
      refine lv_dup hx hb dX6_readCommand_175 rfl ?_
      refine va_get (D := g) (ci := 4) (v := .int (nI p)) (C := RX6) (T := TX6) (N := 6) hx hb hts bgX6 hown hK hP 0 rfl rfl 2 (by decide) (hts _ wd10_15) (fun _ h9 => h9) rfl dX6_readCommand_176 ?_
      refine lv_iconst (v := (nI 1)) hx hb dX6_readCommand_179 (by decide) ?_
      refine lv_iadd hx hb dX6_readCommand_180 ?_
      refine ti (nI_add p 1) ?_
      refine va_put (D := g) (ci := 4) (v := .int (nI (p + 1))) (ty := .int) (C := RX6) (T := TX6) (N := 6) hx hb hts bgX6 tyX6 tyX6_ok nmX6 hown hK hP hD hS 0 rfl rfl 2 (by decide) (hts _ wd10_15) (fun _ h9 => h9) rfl (by decide +kernel) rfl rfl (Nat.le_of_ble_eq_true rfl) dX6_readCommand_181 (fun H locs hP hD hS => ?_)
      have hP : va_P g vwCl [(h, .inr (4, [.ref hs, .int (nI ln), .int (nI (p + 1)), .int (nI (sgn tx ln p)), .ref hp, .int (nI 0)])), aI cy hs 120 (mS tx), aI cy hp 4 (mS pt)] H := hP
      have hD : va_D A [(h, .inr (4, [.ref hs, .int (nI ln), .int (nI (p + 1)), .int (nI (sgn tx ln p)), .ref hp, .int (nI 0)])), aI cy hs 120 (mS tx), aI cy hp 4 (mS pt)] := hD
      refine lv_aload_n hx hb dX6_readCommand_184 rfl (lv_at hl 0 rfl) ?_
      refine lv_iconst (v := (nI 1)) hx hb dX6_readCommand_185 (by decide) ?_
      refine lv_iconst (v := (nI 0)) hx hb dX6_readCommand_186 (by decide) ?_
      refine lv_iconst (v := (nI 5)) hx hb dX6_readCommand_187 (by decide) ?_
      refine wr_call (wc := [(h, .inr (4, [.ref hs, .int (nI ln), .int (nI (p + 1)), .int (nI (sgn tx ln p)), .ref hp, .int (nI 0)])), aI cy hs 120 (mS tx), aI cy hp 4 (mS pt)]) (va_runV (As := [.int (nI 1), .int (nI 0), .int (nI 5)]) (rest := []) ⟨hx, hb, hml, hown, hts⟩ (c_X6_readNumber l g cy h hs hp H.size tx ln (p + 1) (sgn tx ln p) pt 0 1 0 5 htx (by omega) (by omega) (by omega) (by omega) (by omega) (by omega) (by omega)) ⟨(cB 3 hts wd11_13 wd2_0 wd11_10 rfl rfl (by decide +kernel) ⟨Nat.le_of_ble_eq_true rfl, Nat.le_of_ble_eq_true rfl⟩), hts _ wd11_11, hts _ wd11_12⟩ (pv hK hP hD hS hA hX [0, 1, 2] rfl rfl 4 0 rfl rfl) rfl rfl hl.1 rfl (lv_room (Nat.le_of_ble_eq_true rfl)) dX6_readCommand_188 ⟨Nat.zero_le _, Nat.zero_le _⟩) hP hD hS hA [0, 1, 2] rfl rfl (fun _ => (rfl : ([h, hs, hp] : List Nat) = [h, hs, hp])) ?_
      rintro r_188 H locs hr_188 hP hD hS
      have hP : va_P g vwCl [(h, .inr (4, [.ref hs, .int (nI ln), .int (nI r_188.2.2), .int (nI (sgn tx ln p)), .ref hp, .int (nI (if r_188.1 = true then 0 + 1 else 0))])), aI cy hs 120 (mS tx), aI cy hp 4 (mS (if r_188.1 = true then up pt 0 r_188.2.1 else pt))] H := hP
      have hD : va_D A [(h, .inr (4, [.ref hs, .int (nI ln), .int (nI r_188.2.2), .int (nI (sgn tx ln p)), .ref hp, .int (nI (if r_188.1 = true then 0 + 1 else 0))])), aI cy hs 120 (mS tx), aI cy hp 4 (mS (if r_188.1 = true then up pt 0 r_188.2.1 else pt))] := hD
      have hr_188 : r_188 = itF tx ln 1 0 5 (p + 1) := hr_188
      show W _ _ _ _ _ _ _ _ _ _ _ _ _ _ _ (F0 mX 191 ls [.int (bI r_188.1)])
      have hp9_0 := itF_p (tx := tx) (ln := ln) (d := 1) (lo := 0) (hi := 5) (p := p + 1)
      rw [← hr_188] at hp9_0
      refine lv_if_eq (tgt := 212) hx hb dX6_readCommand_191 (by decide) (fun c_191 => ?_) (fun c_191 => ?_)
      · have c_191 := (bI_eq0.mp c_191)
        have hf9 : cmdF tx ln p pt = (false, r_188.2.2, pt) := h9_0.trans (rdL_no hr_188 c_191)
        rw [show (mS (if r_188.1 = true then up pt 0 r_188.2.1 else pt)) = (mS pt) from (by rw [if_neg (by rw [c_191]; decide)])] at hP hD
        rw [show (nI (if r_188.1 = true then 0 + 1 else 0)) = (nI 0) from (by rw [if_neg (by rw [c_191]; decide)])] at hP hD
        refine lv_iconst (v := (nI 0)) hx hb dX6_readCommand_212 (by decide) ?_
        exact wr_z (b := false) (cmdF tx ln p pt, 0) rfl (by rw [hf9]) ⟨rfl, (fun c9 => absurd (show (cmdF tx ln p pt).1 = true from c9) (by rw [hf9]; exact Bool.false_ne_true))⟩ (by rw [hf9]; exact hP) hS hx hb hr dX6_readCommand_213 hlk
      · have c_191 := (bI_ne0.mp c_191)
        have h9_1 := h9_0.trans (rdL_yes hr_188 c_191)
        rw [show (mS (if r_188.1 = true then up pt 0 r_188.2.1 else pt)) = (mS (up pt 0 r_188.2.1)) from (by rw [if_pos c_191])] at hP hD
        rw [show (nI (if r_188.1 = true then 0 + 1 else 0)) = (nI 1) from (by rw [if_pos c_191])] at hP hD
        refine lv_aload_n hx hb dX6_readCommand_194 rfl (lv_at hl 0 rfl) ?_
        refine wr_call (wc := [(h, .inr (4, [.ref hs, .int (nI ln), .int (nI r_188.2.2), .int (nI (sgn tx ln p)), .ref hp, .int (nI 1)])), aI cy hs 120 (mS tx), aI cy hp 4 (mS (up pt 0 r_188.2.1))]) (va_runV (As := []) (rest := []) ⟨hx, hb, hml, hown, hts⟩ (c_X6_readFinder l g cy h hs hp H.size tx ln r_188.2.2 (sgn tx ln p) (up pt 0 r_188.2.1) 1 htx (by omega) (by omega) (by omega)) ⟨(cB 0 hts wd12_1 wd2_0 wd11_22 rfl rfl (by decide +kernel) ⟨Nat.le_of_ble_eq_true rfl, Nat.le_of_ble_eq_true rfl⟩), hts _ wd11_23, hts _ wd12_0⟩ (pv hK hP hD hS hA hX [0, 1, 2] rfl rfl 4 0 rfl rfl) rfl rfl hl.1 rfl (lv_room (Nat.le_of_ble_eq_true rfl)) dX6_readCommand_195 ⟨Nat.zero_le _, Nat.zero_le _⟩) hP hD hS hA [0, 1, 2] rfl rfl (fun _ => (rfl : ([h, hs, hp] : List Nat) = [h, hs, hp])) ?_
        rintro r_195 H locs hr_195 hP hD hS
        have hP : va_P g vwCl [(h, .inr (4, [.ref hs, .int (nI ln), .int (nI r_195.2.2), .int (nI (sgn tx ln p)), .ref hp, .int (nI (if r_195.1 = true then 1 + 1 else 1))])), aI cy hs 120 (mS tx), aI cy hp 4 (mS (if r_195.1 = true then up (up pt 0 r_188.2.1) 1 r_195.2.1 else (up pt 0 r_188.2.1)))] H := hP
        have hD : va_D A [(h, .inr (4, [.ref hs, .int (nI ln), .int (nI r_195.2.2), .int (nI (sgn tx ln p)), .ref hp, .int (nI (if r_195.1 = true then 1 + 1 else 1))])), aI cy hs 120 (mS tx), aI cy hp 4 (mS (if r_195.1 = true then up (up pt 0 r_188.2.1) 1 r_195.2.1 else (up pt 0 r_188.2.1)))] := hD
        have hr_195 : r_195 = itF tx ln 1 0 7 r_188.2.2 := hr_195
        show W _ _ _ _ _ _ _ _ _ _ _ _ _ _ _ (F0 mX 198 ls [.int (bI r_195.1)])
        have hp9_1 := itF_p (tx := tx) (ln := ln) (d := 1) (lo := 0) (hi := 7) (p := r_188.2.2)
        rw [← hr_195] at hp9_1
        refine lv_if_eq (tgt := 212) hx hb dX6_readCommand_198 (by decide) (fun c_198 => ?_) (fun c_198 => ?_)
        · have c_198 := (bI_eq0.mp c_198)
          have hf9 : cmdF tx ln p pt = (false, r_195.2.2, up pt 0 r_188.2.1) := h9_1.trans (rdL_no hr_195 c_198)
          rw [show (mS (if r_195.1 = true then up (up pt 0 r_188.2.1) 1 r_195.2.1 else (up pt 0 r_188.2.1))) = (mS (up pt 0 r_188.2.1)) from (by rw [if_neg (by rw [c_198]; decide)])] at hP hD
          rw [show (nI (if r_195.1 = true then 1 + 1 else 1)) = (nI 1) from (by rw [if_neg (by rw [c_198]; decide)])] at hP hD
          refine lv_iconst (v := (nI 0)) hx hb dX6_readCommand_212 (by decide) ?_
          exact wr_z (b := false) (cmdF tx ln p pt, 1) rfl (by rw [hf9]) ⟨rfl, (fun c9 => absurd (show (cmdF tx ln p pt).1 = true from c9) (by rw [hf9]; exact Bool.false_ne_true))⟩ (by rw [hf9]; exact hP) hS hx hb hr dX6_readCommand_213 hlk
        · have c_198 := (bI_ne0.mp c_198)
          have h9_2 := h9_1.trans (rdL_yes hr_195 c_198)
          rw [show (mS (if r_195.1 = true then up (up pt 0 r_188.2.1) 1 r_195.2.1 else (up pt 0 r_188.2.1))) = (mS (up (up pt 0 r_188.2.1) 1 r_195.2.1)) from (by rw [if_pos c_198])] at hP hD
          rw [show (nI (if r_195.1 = true then 1 + 1 else 1)) = (nI 2) from (by rw [if_pos c_198])] at hP hD
          refine lv_aload_n hx hb dX6_readCommand_201 rfl (lv_at hl 0 rfl) ?_
          refine wr_call (wc := [(h, .inr (4, [.ref hs, .int (nI ln), .int (nI r_195.2.2), .int (nI (sgn tx ln p)), .ref hp, .int (nI 2)])), aI cy hs 120 (mS tx), aI cy hp 4 (mS (up (up pt 0 r_188.2.1) 1 r_195.2.1))]) (va_runV (As := []) (rest := []) ⟨hx, hb, hml, hown, hts⟩ (c_X6_readCorner l g cy h hs hp H.size tx ln r_195.2.2 (sgn tx ln p) (up (up pt 0 r_188.2.1) 1 r_195.2.1) 2 htx (by omega) (by omega) (by omega)) ⟨(cB 0 hts wd11_21 wd2_0 wd11_18 rfl rfl (by decide +kernel) ⟨Nat.le_of_ble_eq_true rfl, Nat.le_of_ble_eq_true rfl⟩), hts _ wd11_19, hts _ wd11_20⟩ (pv hK hP hD hS hA hX [0, 1, 2] rfl rfl 4 0 rfl rfl) rfl rfl hl.1 rfl (lv_room (Nat.le_of_ble_eq_true rfl)) dX6_readCommand_202 ⟨Nat.zero_le _, Nat.zero_le _⟩) hP hD hS hA [0, 1, 2] rfl rfl (fun _ => (rfl : ([h, hs, hp] : List Nat) = [h, hs, hp])) ?_
          rintro r_202 H locs hr_202 hP hD hS
          have hP : va_P g vwCl [(h, .inr (4, [.ref hs, .int (nI ln), .int (nI r_202.2.2), .int (nI (sgn tx ln p)), .ref hp, .int (nI (if r_202.1 = true then 2 + 1 else 2))])), aI cy hs 120 (mS tx), aI cy hp 4 (mS (if r_202.1 = true then up (up (up pt 0 r_188.2.1) 1 r_195.2.1) 2 r_202.2.1 else (up (up pt 0 r_188.2.1) 1 r_195.2.1)))] H := hP
          have hD : va_D A [(h, .inr (4, [.ref hs, .int (nI ln), .int (nI r_202.2.2), .int (nI (sgn tx ln p)), .ref hp, .int (nI (if r_202.1 = true then 2 + 1 else 2))])), aI cy hs 120 (mS tx), aI cy hp 4 (mS (if r_202.1 = true then up (up (up pt 0 r_188.2.1) 1 r_195.2.1) 2 r_202.2.1 else (up (up pt 0 r_188.2.1) 1 r_195.2.1)))] := hD
          have hr_202 : r_202 = itF tx ln 2 0 11 r_195.2.2 := hr_202
          show W _ _ _ _ _ _ _ _ _ _ _ _ _ _ _ (F0 mX 205 ls [.int (bI r_202.1)])
          have hp9_2 := itF_p (tx := tx) (ln := ln) (d := 2) (lo := 0) (hi := 11) (p := r_195.2.2)
          rw [← hr_202] at hp9_2
          refine lv_if_eq (tgt := 212) hx hb dX6_readCommand_205 (by decide) (fun c_205 => ?_) (fun c_205 => ?_)
          · have c_205 := (bI_eq0.mp c_205)
            have hf9 : cmdF tx ln p pt = (false, r_202.2.2, up (up pt 0 r_188.2.1) 1 r_195.2.1) := h9_2.trans (rdL_no hr_202 c_205)
            rw [show (mS (if r_202.1 = true then up (up (up pt 0 r_188.2.1) 1 r_195.2.1) 2 r_202.2.1 else (up (up pt 0 r_188.2.1) 1 r_195.2.1))) = (mS (up (up pt 0 r_188.2.1) 1 r_195.2.1)) from (by rw [if_neg (by rw [c_205]; decide)])] at hP hD
            rw [show (nI (if r_202.1 = true then 2 + 1 else 2)) = (nI 2) from (by rw [if_neg (by rw [c_205]; decide)])] at hP hD
            refine lv_iconst (v := (nI 0)) hx hb dX6_readCommand_212 (by decide) ?_
            exact wr_z (b := false) (cmdF tx ln p pt, 2) rfl (by rw [hf9]) ⟨rfl, (fun c9 => absurd (show (cmdF tx ln p pt).1 = true from c9) (by rw [hf9]; exact Bool.false_ne_true))⟩ (by rw [hf9]; exact hP) hS hx hb hr dX6_readCommand_213 hlk
          · have c_205 := (bI_ne0.mp c_205)
            have h9_3 := h9_2.trans (rdL_yes hr_202 c_205)
            have hf9 : cmdF tx ln p pt = (true, r_202.2.2, up (up (up pt 0 r_188.2.1) 1 r_195.2.1) 2 r_202.2.1) := h9_3
            rw [show (mS (if r_202.1 = true then up (up (up pt 0 r_188.2.1) 1 r_195.2.1) 2 r_202.2.1 else (up (up pt 0 r_188.2.1) 1 r_195.2.1))) = (mS (up (up (up pt 0 r_188.2.1) 1 r_195.2.1) 2 r_202.2.1)) from (by rw [if_pos c_205])] at hP hD
            rw [show (nI (if r_202.1 = true then 2 + 1 else 2)) = (nI 3) from (by rw [if_pos c_205])] at hP hD
            refine lv_iconst (v := (nI 1)) hx hb dX6_readCommand_208 (by decide) ?_
            refine lv_goto (tgt := 213) hx hb dX6_readCommand_209 (by decide) ?_
            exact wr_z (b := true) (cmdF tx ln p pt, 3) rfl (by rw [hf9]) ⟨rfl, (fun _ => by unfold npt; rw [if_neg c_17_100, if_pos c_17_102])⟩ (by rw [hf9]; exact hP) hS hx hb hr dX6_readCommand_213 hlk
    · skip
      by_cases c_17_104 : (nI (sgn tx ln p)) = nI 104
      · refine lv_lookup (tgt := 251) (off := 234) hx hb dX6_readCommand_17 rfl (by rw [c_17_104]; decide) (by decide) ?_
        have h9_0 : cmdF tx ln p pt = rdL tx ln lsH9 (p + 1) 0 pt := by unfold cmdF; rw [if_neg c_17_100, if_neg c_17_102, if_pos c_17_104]
        refine lv_aload_n hx hb dX6_readCommand_251 rfl (lv_at hl 0 rfl) ?_
        refine lv_dup hx hb dX6_readCommand_252 rfl ?_
        refine va_get (D := g) (ci := 4) (v := .int (nI p)) (C := RX6) (T := TX6) (N := 6) hx hb hts bgX6 hown hK hP 0 rfl rfl 2 (by decide) (hts _ wd10_15) (fun _ h9 => h9) rfl dX6_readCommand_253 ?_
        refine lv_iconst (v := (nI 1)) hx hb dX6_readCommand_256 (by decide) ?_
        refine lv_iadd hx hb dX6_readCommand_257 ?_
        refine ti (nI_add p 1) ?_
        refine va_put (D := g) (ci := 4) (v := .int (nI (p + 1))) (ty := .int) (C := RX6) (T := TX6) (N := 6) hx hb hts bgX6 tyX6 tyX6_ok nmX6 hown hK hP hD hS 0 rfl rfl 2 (by decide) (hts _ wd10_15) (fun _ h9 => h9) rfl (by decide +kernel) rfl rfl (Nat.le_of_ble_eq_true rfl) dX6_readCommand_258 (fun H locs hP hD hS => ?_)
        have hP : va_P g vwCl [(h, .inr (4, [.ref hs, .int (nI ln), .int (nI (p + 1)), .int (nI (sgn tx ln p)), .ref hp, .int (nI 0)])), aI cy hs 120 (mS tx), aI cy hp 4 (mS pt)] H := hP
        have hD : va_D A [(h, .inr (4, [.ref hs, .int (nI ln), .int (nI (p + 1)), .int (nI (sgn tx ln p)), .ref hp, .int (nI 0)])), aI cy hs 120 (mS tx), aI cy hp 4 (mS pt)] := hD
        refine lv_aload_n hx hb dX6_readCommand_261 rfl (lv_at hl 0 rfl) ?_
        refine lv_iconst (v := (nI 2)) hx hb dX6_readCommand_262 (by decide) ?_
        refine lv_iconst (v := (nI 1)) hx hb dX6_readCommand_263 (by decide) ?_
        refine lv_bipush (v := (nI 99)) hx hb dX6_readCommand_264 (by decide) ?_
        refine wr_call (wc := [(h, .inr (4, [.ref hs, .int (nI ln), .int (nI (p + 1)), .int (nI (sgn tx ln p)), .ref hp, .int (nI 0)])), aI cy hs 120 (mS tx), aI cy hp 4 (mS pt)]) (va_runV (As := [.int (nI 2), .int (nI 1), .int (nI 99)]) (rest := []) ⟨hx, hb, hml, hown, hts⟩ (c_X6_readNumber l g cy h hs hp H.size tx ln (p + 1) (sgn tx ln p) pt 0 2 1 99 htx (by omega) (by omega) (by omega) (by omega) (by omega) (by omega) (by omega)) ⟨(cB 3 hts wd11_13 wd2_0 wd11_10 rfl rfl (by decide +kernel) ⟨Nat.le_of_ble_eq_true rfl, Nat.le_of_ble_eq_true rfl⟩), hts _ wd11_11, hts _ wd11_12⟩ (pv hK hP hD hS hA hX [0, 1, 2] rfl rfl 4 0 rfl rfl) rfl rfl hl.1 rfl (lv_room (Nat.le_of_ble_eq_true rfl)) dX6_readCommand_266 ⟨Nat.zero_le _, Nat.zero_le _⟩) hP hD hS hA [0, 1, 2] rfl rfl (fun _ => (rfl : ([h, hs, hp] : List Nat) = [h, hs, hp])) ?_
        rintro r_266 H locs hr_266 hP hD hS
        have hP : va_P g vwCl [(h, .inr (4, [.ref hs, .int (nI ln), .int (nI r_266.2.2), .int (nI (sgn tx ln p)), .ref hp, .int (nI (if r_266.1 = true then 0 + 1 else 0))])), aI cy hs 120 (mS tx), aI cy hp 4 (mS (if r_266.1 = true then up pt 0 r_266.2.1 else pt))] H := hP
        have hD : va_D A [(h, .inr (4, [.ref hs, .int (nI ln), .int (nI r_266.2.2), .int (nI (sgn tx ln p)), .ref hp, .int (nI (if r_266.1 = true then 0 + 1 else 0))])), aI cy hs 120 (mS tx), aI cy hp 4 (mS (if r_266.1 = true then up pt 0 r_266.2.1 else pt))] := hD
        have hr_266 : r_266 = itF tx ln 2 1 99 (p + 1) := hr_266
        show W _ _ _ _ _ _ _ _ _ _ _ _ _ _ _ (F0 mX 269 ls [.int (bI r_266.1)])
        have hf9 : cmdF tx ln p pt = (r_266.1, r_266.2.2, if r_266.1 = true then up pt 0 r_266.2.1 else pt) := by
          by_cases c : r_266.1 = true
          · rw [h9_0, show lsH9 = [(2, 1, 99)] from rfl, rdL_yes hr_266 c, if_pos c, c]; rfl
          · have c2 : r_266.1 = false := by simpa using c
            rw [h9_0, show lsH9 = [(2, 1, 99)] from rfl, rdL_no hr_266 c2, if_neg c, c2]
        exact wr_z (b := r_266.1) (cmdF tx ln p pt, if r_266.1 = true then 0 + 1 else 0) rfl (by rw [hf9]) ⟨rfl, (fun c9 => by have c8 : r_266.1 = true := by { have c7 : (cmdF tx ln p pt).1 = true := c9; rw [hf9] at c7; exact c7 }; show (if r_266.1 = true then 0 + 1 else 0) = npt _; rw [if_pos c8]; unfold npt; rw [if_neg c_17_100, if_neg c_17_102, if_pos c_17_104])⟩ (by rw [hf9]; exact hP) hS hx hb hr dX6_readCommand_269 hlk
      · skip
        by_cases c_17_115 : (nI (sgn tx ln p)) = nI 115
        · refine lv_lookup (tgt := 125) (off := 108) hx hb dX6_readCommand_17 rfl (by rw [c_17_115]; decide) (by decide) ?_
          have h9_0 : cmdF tx ln p pt = rdL tx ln lsS9 (p + 1) 0 pt := by unfold cmdF; rw [if_neg c_17_100, if_neg c_17_102, if_neg c_17_104, if_pos c_17_115]
          refine lv_aload_n hx hb dX6_readCommand_125 rfl (lv_at hl 0 rfl) ?_
          refine lv_dup hx hb dX6_readCommand_126 rfl ?_
          refine va_get (D := g) (ci := 4) (v := .int (nI p)) (C := RX6) (T := TX6) (N := 6) hx hb hts bgX6 hown hK hP 0 rfl rfl 2 (by decide) (hts _ wd10_15) (fun _ h9 => h9) rfl dX6_readCommand_127 ?_
          refine lv_iconst (v := (nI 1)) hx hb dX6_readCommand_130 (by decide) ?_
          refine lv_iadd hx hb dX6_readCommand_131 ?_
          refine ti (nI_add p 1) ?_
          refine va_put (D := g) (ci := 4) (v := .int (nI (p + 1))) (ty := .int) (C := RX6) (T := TX6) (N := 6) hx hb hts bgX6 tyX6 tyX6_ok nmX6 hown hK hP hD hS 0 rfl rfl 2 (by decide) (hts _ wd10_15) (fun _ h9 => h9) rfl (by decide +kernel) rfl rfl (Nat.le_of_ble_eq_true rfl) dX6_readCommand_132 (fun H locs hP hD hS => ?_)
          have hP : va_P g vwCl [(h, .inr (4, [.ref hs, .int (nI ln), .int (nI (p + 1)), .int (nI (sgn tx ln p)), .ref hp, .int (nI 0)])), aI cy hs 120 (mS tx), aI cy hp 4 (mS pt)] H := hP
          have hD : va_D A [(h, .inr (4, [.ref hs, .int (nI ln), .int (nI (p + 1)), .int (nI (sgn tx ln p)), .ref hp, .int (nI 0)])), aI cy hs 120 (mS tx), aI cy hp 4 (mS pt)] := hD
          refine lv_aload_n hx hb dX6_readCommand_135 rfl (lv_at hl 0 rfl) ?_
          refine wr_call (wc := [(h, .inr (4, [.ref hs, .int (nI ln), .int (nI (p + 1)), .int (nI (sgn tx ln p)), .ref hp, .int (nI 0)])), aI cy hs 120 (mS tx), aI cy hp 4 (mS pt)]) (va_runV (As := []) (rest := []) ⟨hx, hb, hml, hown, hts⟩ (c_X6_readFinder l g cy h hs hp H.size tx ln (p + 1) (sgn tx ln p) pt 0 htx (by omega) (by omega) (by omega)) ⟨(cB 0 hts wd12_1 wd2_0 wd11_22 rfl rfl (by decide +kernel) ⟨Nat.le_of_ble_eq_true rfl, Nat.le_of_ble_eq_true rfl⟩), hts _ wd11_23, hts _ wd12_0⟩ (pv hK hP hD hS hA hX [0, 1, 2] rfl rfl 4 0 rfl rfl) rfl rfl hl.1 rfl (lv_room (Nat.le_of_ble_eq_true rfl)) dX6_readCommand_136 ⟨Nat.zero_le _, Nat.zero_le _⟩) hP hD hS hA [0, 1, 2] rfl rfl (fun _ => (rfl : ([h, hs, hp] : List Nat) = [h, hs, hp])) ?_
          rintro r_136 H locs hr_136 hP hD hS
          have hP : va_P g vwCl [(h, .inr (4, [.ref hs, .int (nI ln), .int (nI r_136.2.2), .int (nI (sgn tx ln p)), .ref hp, .int (nI (if r_136.1 = true then 0 + 1 else 0))])), aI cy hs 120 (mS tx), aI cy hp 4 (mS (if r_136.1 = true then up pt 0 r_136.2.1 else pt))] H := hP
          have hD : va_D A [(h, .inr (4, [.ref hs, .int (nI ln), .int (nI r_136.2.2), .int (nI (sgn tx ln p)), .ref hp, .int (nI (if r_136.1 = true then 0 + 1 else 0))])), aI cy hs 120 (mS tx), aI cy hp 4 (mS (if r_136.1 = true then up pt 0 r_136.2.1 else pt))] := hD
          have hr_136 : r_136 = itF tx ln 1 0 7 (p + 1) := hr_136
          show W _ _ _ _ _ _ _ _ _ _ _ _ _ _ _ (F0 mX 139 ls [.int (bI r_136.1)])
          have hp9_0 := itF_p (tx := tx) (ln := ln) (d := 1) (lo := 0) (hi := 7) (p := p + 1)
          rw [← hr_136] at hp9_0
          refine lv_if_eq (tgt := 172) hx hb dX6_readCommand_139 (by decide) (fun c_139 => ?_) (fun c_139 => ?_)
          · have c_139 := (bI_eq0.mp c_139)
            have hf9 : cmdF tx ln p pt = (false, r_136.2.2, pt) := h9_0.trans (rdL_no hr_136 c_139)
            rw [show (mS (if r_136.1 = true then up pt 0 r_136.2.1 else pt)) = (mS pt) from (by rw [if_neg (by rw [c_139]; decide)])] at hP hD
            rw [show (nI (if r_136.1 = true then 0 + 1 else 0)) = (nI 0) from (by rw [if_neg (by rw [c_139]; decide)])] at hP hD
            refine lv_iconst (v := (nI 0)) hx hb dX6_readCommand_172 (by decide) ?_
            exact wr_z (b := false) (cmdF tx ln p pt, 0) rfl (by rw [hf9]) ⟨rfl, (fun c9 => absurd (show (cmdF tx ln p pt).1 = true from c9) (by rw [hf9]; exact Bool.false_ne_true))⟩ (by rw [hf9]; exact hP) hS hx hb hr dX6_readCommand_173 hlk
          · have c_139 := (bI_ne0.mp c_139)
            have h9_1 := h9_0.trans (rdL_yes hr_136 c_139)
            rw [show (mS (if r_136.1 = true then up pt 0 r_136.2.1 else pt)) = (mS (up pt 0 r_136.2.1)) from (by rw [if_pos c_139])] at hP hD
            rw [show (nI (if r_136.1 = true then 0 + 1 else 0)) = (nI 1) from (by rw [if_pos c_139])] at hP hD
            refine lv_aload_n hx hb dX6_readCommand_142 rfl (lv_at hl 0 rfl) ?_
            refine wr_call (wc := [(h, .inr (4, [.ref hs, .int (nI ln), .int (nI r_136.2.2), .int (nI (sgn tx ln p)), .ref hp, .int (nI 1)])), aI cy hs 120 (mS tx), aI cy hp 4 (mS (up pt 0 r_136.2.1))]) (va_runV (As := []) (rest := []) ⟨hx, hb, hml, hown, hts⟩ (c_X6_readCorner l g cy h hs hp H.size tx ln r_136.2.2 (sgn tx ln p) (up pt 0 r_136.2.1) 1 htx (by omega) (by omega) (by omega)) ⟨(cB 0 hts wd11_21 wd2_0 wd11_18 rfl rfl (by decide +kernel) ⟨Nat.le_of_ble_eq_true rfl, Nat.le_of_ble_eq_true rfl⟩), hts _ wd11_19, hts _ wd11_20⟩ (pv hK hP hD hS hA hX [0, 1, 2] rfl rfl 4 0 rfl rfl) rfl rfl hl.1 rfl (lv_room (Nat.le_of_ble_eq_true rfl)) dX6_readCommand_143 ⟨Nat.zero_le _, Nat.zero_le _⟩) hP hD hS hA [0, 1, 2] rfl rfl (fun _ => (rfl : ([h, hs, hp] : List Nat) = [h, hs, hp])) ?_
            rintro r_143 H locs hr_143 hP hD hS
            have hP : va_P g vwCl [(h, .inr (4, [.ref hs, .int (nI ln), .int (nI r_143.2.2), .int (nI (sgn tx ln p)), .ref hp, .int (nI (if r_143.1 = true then 1 + 1 else 1))])), aI cy hs 120 (mS tx), aI cy hp 4 (mS (if r_143.1 = true then up (up pt 0 r_136.2.1) 1 r_143.2.1 else (up pt 0 r_136.2.1)))] H := hP
            have hD : va_D A [(h, .inr (4, [.ref hs, .int (nI ln), .int (nI r_143.2.2), .int (nI (sgn tx ln p)), .ref hp, .int (nI (if r_143.1 = true then 1 + 1 else 1))])), aI cy hs 120 (mS tx), aI cy hp 4 (mS (if r_143.1 = true then up (up pt 0 r_136.2.1) 1 r_143.2.1 else (up pt 0 r_136.2.1)))] := hD
            have hr_143 : r_143 = itF tx ln 2 0 11 r_136.2.2 := hr_143
            show W _ _ _ _ _ _ _ _ _ _ _ _ _ _ _ (F0 mX 146 ls [.int (bI r_143.1)])
            have hp9_1 := itF_p (tx := tx) (ln := ln) (d := 2) (lo := 0) (hi := 11) (p := r_136.2.2)
            rw [← hr_143] at hp9_1
            refine lv_if_eq (tgt := 172) hx hb dX6_readCommand_146 (by decide) (fun c_146 => ?_) (fun c_146 => ?_)
            · have c_146 := (bI_eq0.mp c_146)
              have hf9 : cmdF tx ln p pt = (false, r_143.2.2, up pt 0 r_136.2.1) := h9_1.trans (rdL_no hr_143 c_146)
              rw [show (mS (if r_143.1 = true then up (up pt 0 r_136.2.1) 1 r_143.2.1 else (up pt 0 r_136.2.1))) = (mS (up pt 0 r_136.2.1)) from (by rw [if_neg (by rw [c_146]; decide)])] at hP hD
              rw [show (nI (if r_143.1 = true then 1 + 1 else 1)) = (nI 1) from (by rw [if_neg (by rw [c_146]; decide)])] at hP hD
              refine lv_iconst (v := (nI 0)) hx hb dX6_readCommand_172 (by decide) ?_
              exact wr_z (b := false) (cmdF tx ln p pt, 1) rfl (by rw [hf9]) ⟨rfl, (fun c9 => absurd (show (cmdF tx ln p pt).1 = true from c9) (by rw [hf9]; exact Bool.false_ne_true))⟩ (by rw [hf9]; exact hP) hS hx hb hr dX6_readCommand_173 hlk
            · have c_146 := (bI_ne0.mp c_146)
              have h9_2 := h9_1.trans (rdL_yes hr_143 c_146)
              rw [show (mS (if r_143.1 = true then up (up pt 0 r_136.2.1) 1 r_143.2.1 else (up pt 0 r_136.2.1))) = (mS (up (up pt 0 r_136.2.1) 1 r_143.2.1)) from (by rw [if_pos c_146])] at hP hD
              rw [show (nI (if r_143.1 = true then 1 + 1 else 1)) = (nI 2) from (by rw [if_pos c_146])] at hP hD
              refine lv_aload_n hx hb dX6_readCommand_149 rfl (lv_at hl 0 rfl) ?_
              refine lv_iconst (v := (nI 3)) hx hb dX6_readCommand_150 (by decide) ?_
              refine lv_iconst (v := (nI 0)) hx hb dX6_readCommand_151 (by decide) ?_
              refine lv_sipush (v := (nI 255)) hx hb dX6_readCommand_152 (by decide) ?_
              refine wr_call (wc := [(h, .inr (4, [.ref hs, .int (nI ln), .int (nI r_143.2.2), .int (nI (sgn tx ln p)), .ref hp, .int (nI 2)])), aI cy hs 120 (mS tx), aI cy hp 4 (mS (up (up pt 0 r_136.2.1) 1 r_143.2.1))]) (va_runV (As := [.int (nI 3), .int (nI 0), .int (nI 255)]) (rest := []) ⟨hx, hb, hml, hown, hts⟩ (c_X6_readNumber l g cy h hs hp H.size tx ln r_143.2.2 (sgn tx ln p) (up (up pt 0 r_136.2.1) 1 r_143.2.1) 2 3 0 255 htx (by omega) (by omega) (by omega) (by omega) (by omega) (by omega) (by omega)) ⟨(cB 3 hts wd11_13 wd2_0 wd11_10 rfl rfl (by decide +kernel) ⟨Nat.le_of_ble_eq_true rfl, Nat.le_of_ble_eq_true rfl⟩), hts _ wd11_11, hts _ wd11_12⟩ (pv hK hP hD hS hA hX [0, 1, 2] rfl rfl 4 0 rfl rfl) rfl rfl hl.1 rfl (lv_room (Nat.le_of_ble_eq_true rfl)) dX6_readCommand_155 ⟨Nat.zero_le _, Nat.zero_le _⟩) hP hD hS hA [0, 1, 2] rfl rfl (fun _ => (rfl : ([h, hs, hp] : List Nat) = [h, hs, hp])) ?_
              rintro r_155 H locs hr_155 hP hD hS
              have hP : va_P g vwCl [(h, .inr (4, [.ref hs, .int (nI ln), .int (nI r_155.2.2), .int (nI (sgn tx ln p)), .ref hp, .int (nI (if r_155.1 = true then 2 + 1 else 2))])), aI cy hs 120 (mS tx), aI cy hp 4 (mS (if r_155.1 = true then up (up (up pt 0 r_136.2.1) 1 r_143.2.1) 2 r_155.2.1 else (up (up pt 0 r_136.2.1) 1 r_143.2.1)))] H := hP
              have hD : va_D A [(h, .inr (4, [.ref hs, .int (nI ln), .int (nI r_155.2.2), .int (nI (sgn tx ln p)), .ref hp, .int (nI (if r_155.1 = true then 2 + 1 else 2))])), aI cy hs 120 (mS tx), aI cy hp 4 (mS (if r_155.1 = true then up (up (up pt 0 r_136.2.1) 1 r_143.2.1) 2 r_155.2.1 else (up (up pt 0 r_136.2.1) 1 r_143.2.1)))] := hD
              have hr_155 : r_155 = itF tx ln 3 0 255 r_143.2.2 := hr_155
              show W _ _ _ _ _ _ _ _ _ _ _ _ _ _ _ (F0 mX 158 ls [.int (bI r_155.1)])
              have hp9_2 := itF_p (tx := tx) (ln := ln) (d := 3) (lo := 0) (hi := 255) (p := r_143.2.2)
              rw [← hr_155] at hp9_2
              refine lv_if_eq (tgt := 172) hx hb dX6_readCommand_158 (by decide) (fun c_158 => ?_) (fun c_158 => ?_)
              · have c_158 := (bI_eq0.mp c_158)
                have hf9 : cmdF tx ln p pt = (false, r_155.2.2, up (up pt 0 r_136.2.1) 1 r_143.2.1) := h9_2.trans (rdL_no hr_155 c_158)
                rw [show (mS (if r_155.1 = true then up (up (up pt 0 r_136.2.1) 1 r_143.2.1) 2 r_155.2.1 else (up (up pt 0 r_136.2.1) 1 r_143.2.1))) = (mS (up (up pt 0 r_136.2.1) 1 r_143.2.1)) from (by rw [if_neg (by rw [c_158]; decide)])] at hP hD
                rw [show (nI (if r_155.1 = true then 2 + 1 else 2)) = (nI 2) from (by rw [if_neg (by rw [c_158]; decide)])] at hP hD
                refine lv_iconst (v := (nI 0)) hx hb dX6_readCommand_172 (by decide) ?_
                exact wr_z (b := false) (cmdF tx ln p pt, 2) rfl (by rw [hf9]) ⟨rfl, (fun c9 => absurd (show (cmdF tx ln p pt).1 = true from c9) (by rw [hf9]; exact Bool.false_ne_true))⟩ (by rw [hf9]; exact hP) hS hx hb hr dX6_readCommand_173 hlk
              · have c_158 := (bI_ne0.mp c_158)
                have h9_3 := h9_2.trans (rdL_yes hr_155 c_158)
                rw [show (mS (if r_155.1 = true then up (up (up pt 0 r_136.2.1) 1 r_143.2.1) 2 r_155.2.1 else (up (up pt 0 r_136.2.1) 1 r_143.2.1))) = (mS (up (up (up pt 0 r_136.2.1) 1 r_143.2.1) 2 r_155.2.1)) from (by rw [if_pos c_158])] at hP hD
                rw [show (nI (if r_155.1 = true then 2 + 1 else 2)) = (nI 3) from (by rw [if_pos c_158])] at hP hD
                refine lv_aload_n hx hb dX6_readCommand_161 rfl (lv_at hl 0 rfl) ?_
                refine wr_call (wc := [(h, .inr (4, [.ref hs, .int (nI ln), .int (nI r_155.2.2), .int (nI (sgn tx ln p)), .ref hp, .int (nI 3)])), aI cy hs 120 (mS tx), aI cy hp 4 (mS (up (up (up pt 0 r_136.2.1) 1 r_143.2.1) 2 r_155.2.1))]) (va_runV (As := []) (rest := []) ⟨hx, hb, hml, hown, hts⟩ (c_X6_readPlusOrMinus l g cy h hs hp H.size tx ln r_155.2.2 (sgn tx ln p) (up (up (up pt 0 r_136.2.1) 1 r_143.2.1) 2 r_155.2.1) 3 htx (by omega) (by omega) (by omega)) ⟨(cB 0 hts wd12_5 wd2_0 wd12_2 rfl rfl (by decide +kernel) ⟨Nat.le_of_ble_eq_true rfl, Nat.le_of_ble_eq_true rfl⟩), hts _ wd12_3, hts _ wd12_4⟩ (pv hK hP hD hS hA hX [0, 1, 2] rfl rfl 4 0 rfl rfl) rfl rfl hl.1 rfl (lv_room (Nat.le_of_ble_eq_true rfl)) dX6_readCommand_162 ⟨Nat.zero_le _, Nat.zero_le _⟩) hP hD hS hA [0, 1, 2] rfl rfl (fun _ => (rfl : ([h, hs, hp] : List Nat) = [h, hs, hp])) ?_
                rintro r_162 H locs hr_162 hP hD hS
                have hP : va_P g vwCl [(h, .inr (4, [.ref hs, .int (nI ln), .int (nI r_162.2.2), .int (nI (sgn tx ln p)), .ref hp, .int (nI (if r_162.1 = true then 3 + 1 else 3))])), aI cy hs 120 (mS tx), aI cy hp 4 (mS (if r_162.1 = true then up (up (up (up pt 0 r_136.2.1) 1 r_143.2.1) 2 r_155.2.1) 3 r_162.2.1 else (up (up (up pt 0 r_136.2.1) 1 r_143.2.1) 2 r_155.2.1)))] H := hP
                have hD : va_D A [(h, .inr (4, [.ref hs, .int (nI ln), .int (nI r_162.2.2), .int (nI (sgn tx ln p)), .ref hp, .int (nI (if r_162.1 = true then 3 + 1 else 3))])), aI cy hs 120 (mS tx), aI cy hp 4 (mS (if r_162.1 = true then up (up (up (up pt 0 r_136.2.1) 1 r_143.2.1) 2 r_155.2.1) 3 r_162.2.1 else (up (up (up pt 0 r_136.2.1) 1 r_143.2.1) 2 r_155.2.1)))] := hD
                have hr_162 : r_162 = itF tx ln 0 0 0 r_155.2.2 := hr_162
                show W _ _ _ _ _ _ _ _ _ _ _ _ _ _ _ (F0 mX 165 ls [.int (bI r_162.1)])
                have hp9_3 := itF_p (tx := tx) (ln := ln) (d := 0) (lo := 0) (hi := 0) (p := r_155.2.2)
                rw [← hr_162] at hp9_3
                refine lv_if_eq (tgt := 172) hx hb dX6_readCommand_165 (by decide) (fun c_165 => ?_) (fun c_165 => ?_)
                · have c_165 := (bI_eq0.mp c_165)
                  have hf9 : cmdF tx ln p pt = (false, r_162.2.2, up (up (up pt 0 r_136.2.1) 1 r_143.2.1) 2 r_155.2.1) := h9_3.trans (rdL_no hr_162 c_165)
                  rw [show (mS (if r_162.1 = true then up (up (up (up pt 0 r_136.2.1) 1 r_143.2.1) 2 r_155.2.1) 3 r_162.2.1 else (up (up (up pt 0 r_136.2.1) 1 r_143.2.1) 2 r_155.2.1))) = (mS (up (up (up pt 0 r_136.2.1) 1 r_143.2.1) 2 r_155.2.1)) from (by rw [if_neg (by rw [c_165]; decide)])] at hP hD
                  rw [show (nI (if r_162.1 = true then 3 + 1 else 3)) = (nI 3) from (by rw [if_neg (by rw [c_165]; decide)])] at hP hD
                  refine lv_iconst (v := (nI 0)) hx hb dX6_readCommand_172 (by decide) ?_
                  exact wr_z (b := false) (cmdF tx ln p pt, 3) rfl (by rw [hf9]) ⟨rfl, (fun c9 => absurd (show (cmdF tx ln p pt).1 = true from c9) (by rw [hf9]; exact Bool.false_ne_true))⟩ (by rw [hf9]; exact hP) hS hx hb hr dX6_readCommand_173 hlk
                · have c_165 := (bI_ne0.mp c_165)
                  have h9_4 := h9_3.trans (rdL_yes hr_162 c_165)
                  have hf9 : cmdF tx ln p pt = (true, r_162.2.2, up (up (up (up pt 0 r_136.2.1) 1 r_143.2.1) 2 r_155.2.1) 3 r_162.2.1) := h9_4
                  rw [show (mS (if r_162.1 = true then up (up (up (up pt 0 r_136.2.1) 1 r_143.2.1) 2 r_155.2.1) 3 r_162.2.1 else (up (up (up pt 0 r_136.2.1) 1 r_143.2.1) 2 r_155.2.1))) = (mS (up (up (up (up pt 0 r_136.2.1) 1 r_143.2.1) 2 r_155.2.1) 3 r_162.2.1)) from (by rw [if_pos c_165])] at hP hD
                  rw [show (nI (if r_162.1 = true then 3 + 1 else 3)) = (nI 4) from (by rw [if_pos c_165])] at hP hD
                  refine lv_iconst (v := (nI 1)) hx hb dX6_readCommand_168 (by decide) ?_
                  refine lv_goto (tgt := 173) hx hb dX6_readCommand_169 (by decide) ?_
                  exact wr_z (b := true) (cmdF tx ln p pt, 4) rfl (by rw [hf9]) ⟨rfl, (fun _ => by unfold npt; rw [if_neg c_17_100, if_neg c_17_102, if_neg c_17_104, if_pos c_17_115])⟩ (by rw [hf9]; exact hP) hS hx hb hr dX6_readCommand_173 hlk
        · skip
          by_cases c_17_120 : (nI (sgn tx ln p)) = nI 120
          · refine lv_lookup (tgt := 214) (off := 197) hx hb dX6_readCommand_17 rfl (by rw [c_17_120]; decide) (by decide) ?_
            have h9_0 : cmdF tx ln p pt = rdL tx ln lsX9 (p + 1) 0 pt := by unfold cmdF; rw [if_neg c_17_100, if_neg c_17_102, if_neg c_17_104, if_neg c_17_115, if_pos c_17_120]
            refine lv_aload_n hx hb dX6_readCommand_214 rfl (lv_at hl 0 rfl) ?_
            refine lv_dup hx hb dX6_readCommand_215 rfl ?_
            refine va_get (D := g) (ci := 4) (v := .int (nI p)) (C := RX6) (T := TX6) (N := 6) hx hb hts bgX6 hown hK hP 0 rfl rfl 2 (by decide) (hts _ wd10_15) (fun _ h9 => h9) rfl dX6_readCommand_216 ?_
            refine lv_iconst (v := (nI 1)) hx hb dX6_readCommand_219 (by decide) ?_
            refine lv_iadd hx hb dX6_readCommand_220 ?_
            refine ti (nI_add p 1) ?_
            refine va_put (D := g) (ci := 4) (v := .int (nI (p + 1))) (ty := .int) (C := RX6) (T := TX6) (N := 6) hx hb hts bgX6 tyX6 tyX6_ok nmX6 hown hK hP hD hS 0 rfl rfl 2 (by decide) (hts _ wd10_15) (fun _ h9 => h9) rfl (by decide +kernel) rfl rfl (Nat.le_of_ble_eq_true rfl) dX6_readCommand_221 (fun H locs hP hD hS => ?_)
            have hP : va_P g vwCl [(h, .inr (4, [.ref hs, .int (nI ln), .int (nI (p + 1)), .int (nI (sgn tx ln p)), .ref hp, .int (nI 0)])), aI cy hs 120 (mS tx), aI cy hp 4 (mS pt)] H := hP
            have hD : va_D A [(h, .inr (4, [.ref hs, .int (nI ln), .int (nI (p + 1)), .int (nI (sgn tx ln p)), .ref hp, .int (nI 0)])), aI cy hs 120 (mS tx), aI cy hp 4 (mS pt)] := hD
            refine lv_aload_n hx hb dX6_readCommand_224 rfl (lv_at hl 0 rfl) ?_
            refine wr_call (wc := [(h, .inr (4, [.ref hs, .int (nI ln), .int (nI (p + 1)), .int (nI (sgn tx ln p)), .ref hp, .int (nI 0)])), aI cy hs 120 (mS tx), aI cy hp 4 (mS pt)]) (va_runV (As := []) (rest := []) ⟨hx, hb, hml, hown, hts⟩ (c_X6_readCorner l g cy h hs hp H.size tx ln (p + 1) (sgn tx ln p) pt 0 htx (by omega) (by omega) (by omega)) ⟨(cB 0 hts wd11_21 wd2_0 wd11_18 rfl rfl (by decide +kernel) ⟨Nat.le_of_ble_eq_true rfl, Nat.le_of_ble_eq_true rfl⟩), hts _ wd11_19, hts _ wd11_20⟩ (pv hK hP hD hS hA hX [0, 1, 2] rfl rfl 4 0 rfl rfl) rfl rfl hl.1 rfl (lv_room (Nat.le_of_ble_eq_true rfl)) dX6_readCommand_225 ⟨Nat.zero_le _, Nat.zero_le _⟩) hP hD hS hA [0, 1, 2] rfl rfl (fun _ => (rfl : ([h, hs, hp] : List Nat) = [h, hs, hp])) ?_
            rintro r_225 H locs hr_225 hP hD hS
            have hP : va_P g vwCl [(h, .inr (4, [.ref hs, .int (nI ln), .int (nI r_225.2.2), .int (nI (sgn tx ln p)), .ref hp, .int (nI (if r_225.1 = true then 0 + 1 else 0))])), aI cy hs 120 (mS tx), aI cy hp 4 (mS (if r_225.1 = true then up pt 0 r_225.2.1 else pt))] H := hP
            have hD : va_D A [(h, .inr (4, [.ref hs, .int (nI ln), .int (nI r_225.2.2), .int (nI (sgn tx ln p)), .ref hp, .int (nI (if r_225.1 = true then 0 + 1 else 0))])), aI cy hs 120 (mS tx), aI cy hp 4 (mS (if r_225.1 = true then up pt 0 r_225.2.1 else pt))] := hD
            have hr_225 : r_225 = itF tx ln 2 0 11 (p + 1) := hr_225
            show W _ _ _ _ _ _ _ _ _ _ _ _ _ _ _ (F0 mX 228 ls [.int (bI r_225.1)])
            have hp9_0 := itF_p (tx := tx) (ln := ln) (d := 2) (lo := 0) (hi := 11) (p := p + 1)
            rw [← hr_225] at hp9_0
            refine lv_if_eq (tgt := 249) hx hb dX6_readCommand_228 (by decide) (fun c_228 => ?_) (fun c_228 => ?_)
            · have c_228 := (bI_eq0.mp c_228)
              have hf9 : cmdF tx ln p pt = (false, r_225.2.2, pt) := h9_0.trans (rdL_no hr_225 c_228)
              rw [show (mS (if r_225.1 = true then up pt 0 r_225.2.1 else pt)) = (mS pt) from (by rw [if_neg (by rw [c_228]; decide)])] at hP hD
              rw [show (nI (if r_225.1 = true then 0 + 1 else 0)) = (nI 0) from (by rw [if_neg (by rw [c_228]; decide)])] at hP hD
              refine lv_iconst (v := (nI 0)) hx hb dX6_readCommand_249 (by decide) ?_
              exact wr_z (b := false) (cmdF tx ln p pt, 0) rfl (by rw [hf9]) ⟨rfl, (fun c9 => absurd (show (cmdF tx ln p pt).1 = true from c9) (by rw [hf9]; exact Bool.false_ne_true))⟩ (by rw [hf9]; exact hP) hS hx hb hr dX6_readCommand_250 hlk
            · have c_228 := (bI_ne0.mp c_228)
              have h9_1 := h9_0.trans (rdL_yes hr_225 c_228)
              rw [show (mS (if r_225.1 = true then up pt 0 r_225.2.1 else pt)) = (mS (up pt 0 r_225.2.1)) from (by rw [if_pos c_228])] at hP hD
              rw [show (nI (if r_225.1 = true then 0 + 1 else 0)) = (nI 1) from (by rw [if_pos c_228])] at hP hD
              refine lv_aload_n hx hb dX6_readCommand_231 rfl (lv_at hl 0 rfl) ?_
              refine wr_call (wc := [(h, .inr (4, [.ref hs, .int (nI ln), .int (nI r_225.2.2), .int (nI (sgn tx ln p)), .ref hp, .int (nI 1)])), aI cy hs 120 (mS tx), aI cy hp 4 (mS (up pt 0 r_225.2.1))]) (va_runV (As := []) (rest := []) ⟨hx, hb, hml, hown, hts⟩ (c_X6_readCorner l g cy h hs hp H.size tx ln r_225.2.2 (sgn tx ln p) (up pt 0 r_225.2.1) 1 htx (by omega) (by omega) (by omega)) ⟨(cB 0 hts wd11_21 wd2_0 wd11_18 rfl rfl (by decide +kernel) ⟨Nat.le_of_ble_eq_true rfl, Nat.le_of_ble_eq_true rfl⟩), hts _ wd11_19, hts _ wd11_20⟩ (pv hK hP hD hS hA hX [0, 1, 2] rfl rfl 4 0 rfl rfl) rfl rfl hl.1 rfl (lv_room (Nat.le_of_ble_eq_true rfl)) dX6_readCommand_232 ⟨Nat.zero_le _, Nat.zero_le _⟩) hP hD hS hA [0, 1, 2] rfl rfl (fun _ => (rfl : ([h, hs, hp] : List Nat) = [h, hs, hp])) ?_
              rintro r_232 H locs hr_232 hP hD hS
              have hP : va_P g vwCl [(h, .inr (4, [.ref hs, .int (nI ln), .int (nI r_232.2.2), .int (nI (sgn tx ln p)), .ref hp, .int (nI (if r_232.1 = true then 1 + 1 else 1))])), aI cy hs 120 (mS tx), aI cy hp 4 (mS (if r_232.1 = true then up (up pt 0 r_225.2.1) 1 r_232.2.1 else (up pt 0 r_225.2.1)))] H := hP
              have hD : va_D A [(h, .inr (4, [.ref hs, .int (nI ln), .int (nI r_232.2.2), .int (nI (sgn tx ln p)), .ref hp, .int (nI (if r_232.1 = true then 1 + 1 else 1))])), aI cy hs 120 (mS tx), aI cy hp 4 (mS (if r_232.1 = true then up (up pt 0 r_225.2.1) 1 r_232.2.1 else (up pt 0 r_225.2.1)))] := hD
              have hr_232 : r_232 = itF tx ln 2 0 11 r_225.2.2 := hr_232
              show W _ _ _ _ _ _ _ _ _ _ _ _ _ _ _ (F0 mX 235 ls [.int (bI r_232.1)])
              have hp9_1 := itF_p (tx := tx) (ln := ln) (d := 2) (lo := 0) (hi := 11) (p := r_225.2.2)
              rw [← hr_232] at hp9_1
              refine lv_if_eq (tgt := 249) hx hb dX6_readCommand_235 (by decide) (fun c_235 => ?_) (fun c_235 => ?_)
              · have c_235 := (bI_eq0.mp c_235)
                have hf9 : cmdF tx ln p pt = (false, r_232.2.2, up pt 0 r_225.2.1) := h9_1.trans (rdL_no hr_232 c_235)
                rw [show (mS (if r_232.1 = true then up (up pt 0 r_225.2.1) 1 r_232.2.1 else (up pt 0 r_225.2.1))) = (mS (up pt 0 r_225.2.1)) from (by rw [if_neg (by rw [c_235]; decide)])] at hP hD
                rw [show (nI (if r_232.1 = true then 1 + 1 else 1)) = (nI 1) from (by rw [if_neg (by rw [c_235]; decide)])] at hP hD
                refine lv_iconst (v := (nI 0)) hx hb dX6_readCommand_249 (by decide) ?_
                exact wr_z (b := false) (cmdF tx ln p pt, 1) rfl (by rw [hf9]) ⟨rfl, (fun c9 => absurd (show (cmdF tx ln p pt).1 = true from c9) (by rw [hf9]; exact Bool.false_ne_true))⟩ (by rw [hf9]; exact hP) hS hx hb hr dX6_readCommand_250 hlk
              · have c_235 := (bI_ne0.mp c_235)
                have h9_2 := h9_1.trans (rdL_yes hr_232 c_235)
                rw [show (mS (if r_232.1 = true then up (up pt 0 r_225.2.1) 1 r_232.2.1 else (up pt 0 r_225.2.1))) = (mS (up (up pt 0 r_225.2.1) 1 r_232.2.1)) from (by rw [if_pos c_235])] at hP hD
                rw [show (nI (if r_232.1 = true then 1 + 1 else 1)) = (nI 2) from (by rw [if_pos c_235])] at hP hD
                refine lv_aload_n hx hb dX6_readCommand_238 rfl (lv_at hl 0 rfl) ?_
                refine wr_call (wc := [(h, .inr (4, [.ref hs, .int (nI ln), .int (nI r_232.2.2), .int (nI (sgn tx ln p)), .ref hp, .int (nI 2)])), aI cy hs 120 (mS tx), aI cy hp 4 (mS (up (up pt 0 r_225.2.1) 1 r_232.2.1))]) (va_runV (As := []) (rest := []) ⟨hx, hb, hml, hown, hts⟩ (c_X6_readPlusOrMinus l g cy h hs hp H.size tx ln r_232.2.2 (sgn tx ln p) (up (up pt 0 r_225.2.1) 1 r_232.2.1) 2 htx (by omega) (by omega) (by omega)) ⟨(cB 0 hts wd12_5 wd2_0 wd12_2 rfl rfl (by decide +kernel) ⟨Nat.le_of_ble_eq_true rfl, Nat.le_of_ble_eq_true rfl⟩), hts _ wd12_3, hts _ wd12_4⟩ (pv hK hP hD hS hA hX [0, 1, 2] rfl rfl 4 0 rfl rfl) rfl rfl hl.1 rfl (lv_room (Nat.le_of_ble_eq_true rfl)) dX6_readCommand_239 ⟨Nat.zero_le _, Nat.zero_le _⟩) hP hD hS hA [0, 1, 2] rfl rfl (fun _ => (rfl : ([h, hs, hp] : List Nat) = [h, hs, hp])) ?_
                rintro r_239 H locs hr_239 hP hD hS
                have hP : va_P g vwCl [(h, .inr (4, [.ref hs, .int (nI ln), .int (nI r_239.2.2), .int (nI (sgn tx ln p)), .ref hp, .int (nI (if r_239.1 = true then 2 + 1 else 2))])), aI cy hs 120 (mS tx), aI cy hp 4 (mS (if r_239.1 = true then up (up (up pt 0 r_225.2.1) 1 r_232.2.1) 2 r_239.2.1 else (up (up pt 0 r_225.2.1) 1 r_232.2.1)))] H := hP
                have hD : va_D A [(h, .inr (4, [.ref hs, .int (nI ln), .int (nI r_239.2.2), .int (nI (sgn tx ln p)), .ref hp, .int (nI (if r_239.1 = true then 2 + 1 else 2))])), aI cy hs 120 (mS tx), aI cy hp 4 (mS (if r_239.1 = true then up (up (up pt 0 r_225.2.1) 1 r_232.2.1) 2 r_239.2.1 else (up (up pt 0 r_225.2.1) 1 r_232.2.1)))] := hD
                have hr_239 : r_239 = itF tx ln 0 0 0 r_232.2.2 := hr_239
                show W _ _ _ _ _ _ _ _ _ _ _ _ _ _ _ (F0 mX 242 ls [.int (bI r_239.1)])
                have hp9_2 := itF_p (tx := tx) (ln := ln) (d := 0) (lo := 0) (hi := 0) (p := r_232.2.2)
                rw [← hr_239] at hp9_2
                refine lv_if_eq (tgt := 249) hx hb dX6_readCommand_242 (by decide) (fun c_242 => ?_) (fun c_242 => ?_)
                · have c_242 := (bI_eq0.mp c_242)
                  have hf9 : cmdF tx ln p pt = (false, r_239.2.2, up (up pt 0 r_225.2.1) 1 r_232.2.1) := h9_2.trans (rdL_no hr_239 c_242)
                  rw [show (mS (if r_239.1 = true then up (up (up pt 0 r_225.2.1) 1 r_232.2.1) 2 r_239.2.1 else (up (up pt 0 r_225.2.1) 1 r_232.2.1))) = (mS (up (up pt 0 r_225.2.1) 1 r_232.2.1)) from (by rw [if_neg (by rw [c_242]; decide)])] at hP hD
                  rw [show (nI (if r_239.1 = true then 2 + 1 else 2)) = (nI 2) from (by rw [if_neg (by rw [c_242]; decide)])] at hP hD
                  refine lv_iconst (v := (nI 0)) hx hb dX6_readCommand_249 (by decide) ?_
                  exact wr_z (b := false) (cmdF tx ln p pt, 2) rfl (by rw [hf9]) ⟨rfl, (fun c9 => absurd (show (cmdF tx ln p pt).1 = true from c9) (by rw [hf9]; exact Bool.false_ne_true))⟩ (by rw [hf9]; exact hP) hS hx hb hr dX6_readCommand_250 hlk
                · have c_242 := (bI_ne0.mp c_242)
                  have h9_3 := h9_2.trans (rdL_yes hr_239 c_242)
                  have hf9 : cmdF tx ln p pt = (true, r_239.2.2, up (up (up pt 0 r_225.2.1) 1 r_232.2.1) 2 r_239.2.1) := h9_3
                  rw [show (mS (if r_239.1 = true then up (up (up pt 0 r_225.2.1) 1 r_232.2.1) 2 r_239.2.1 else (up (up pt 0 r_225.2.1) 1 r_232.2.1))) = (mS (up (up (up pt 0 r_225.2.1) 1 r_232.2.1) 2 r_239.2.1)) from (by rw [if_pos c_242])] at hP hD
                  rw [show (nI (if r_239.1 = true then 2 + 1 else 2)) = (nI 3) from (by rw [if_pos c_242])] at hP hD
                  refine lv_iconst (v := (nI 1)) hx hb dX6_readCommand_245 (by decide) ?_
                  refine lv_goto (tgt := 250) hx hb dX6_readCommand_246 (by decide) ?_
                  exact wr_z (b := true) (cmdF tx ln p pt, 3) rfl (by rw [hf9]) ⟨rfl, (fun _ => by unfold npt; rw [if_neg c_17_100, if_neg c_17_102, if_neg c_17_104, if_neg c_17_115, if_pos c_17_120])⟩ (by rw [hf9]; exact hP) hS hx hb hr dX6_readCommand_250 hlk
          · skip
            refine lv_lookup (tgt := 270) (off := 253) hx hb dX6_readCommand_17 rfl ((lv_osw c_17_100 (a := 100) (by decide)).trans ((lv_osw c_17_102 (a := 102) (by decide)).trans ((lv_osw c_17_104 (a := 104) (by decide)).trans ((lv_osw c_17_115 (a := 115) (by decide)).trans ((lv_osw c_17_120 (a := 120) (by decide)).trans (rfl)))))) (by decide) ?_
            have hf9 : cmdF tx ln p pt = (false, p, pt) := by unfold cmdF; rw [if_neg c_17_100, if_neg c_17_102, if_neg c_17_104, if_neg c_17_115, if_neg c_17_120]
            refine lv_iconst (v := (nI 0)) hx hb dX6_readCommand_270 (by decide) ?_
            exact wr_z (b := false) (cmdF tx ln p pt, 0) rfl (by rw [hf9]) ⟨rfl, (fun c9 => absurd (show (cmdF tx ln p pt).1 = true from c9) (by rw [hf9]; exact Bool.false_ne_true))⟩ (by rw [hf9]; exact hP) hS hx hb hr dX6_readCommand_271 hlk
set_option maxHeartbeats 4000000 in
set_option maxRecDepth 100000 in
theorem c_X6_readStart (l : Launch) (g : va_G) (cy : Nat → ClassId) (h hs hp : Nat) (sz : Nat) (tx : Nat → Nat) (ln : Nat) (p : Nat) (lt : Nat) (pt : Nat → Nat) (pn : Nat) (htx : ∀ i9, tx i9 < 256) (hln : ln ≤ 120) : Met l yX6_readStart (Cond.code yX6_readStart cX6_readStart 1 (some .boolean) :: wsL_law) ({ frames := 1, cells := 0, slots := 0, locals := 21 } : Room) (va_Pc [.ref h] (pr g cy [(h, .inr (4, [.ref hs, .int (nI ln), .int (nI p), .int (nI lt), .ref hp, .int (nI pn)])), aI cy hs 120 (mS tx), aI cy hp 4 (mS pt)] sz)) (wr_Q (fun _ : Unit => (some (.int (bI (decide (sgn tx ln 0 = 77)))))) (fun _ : Unit => True) (fun _ : Unit => [(h, .inr (4, [.ref hs, .int (nI ln), .int (nI (if sgn tx ln 0 = 77 then 1 else 0)), .int (nI lt), .ref hp, .int (nI pn)])), aI cy hs 120 (mS tx), aI cy hp 4 (mS pt)]) g (va_A [(h, .inr (4, [.ref hs, .int (nI ln), .int (nI p), .int (nI lt), .ref hp, .int (nI pn)])), aI cy hs 120 (mS tx), aI cy hp 4 (mS pt)] sz)) 0 0 (va_A [(h, .inr (4, [.ref hs, .int (nI ln), .int (nI p), .int (nI lt), .ref hp, .int (nI pn)])), aI cy hs 120 (mS tx), aI cy hp 4 (mS pt)] sz) := by
  refine mt_of (cc := cX6_readStart) (maxL := 1) (ret := (some .boolean)) (by decide +kernel) (Nat.le_of_ble_eq_true rfl) ?_
  intro pX eX s mX below meth cX ls A hx hb hr hml hown hts hlk hin hsz hAe hA hP hD hK hX hl
  subst hsz
  rw [← hAe]
  clear hAe
  have hl : lv_has ls 1 [(0, .ref h)] := hl
  have hS : va_S A s.heap s.heap [] := va_S.rf
  have hs9 : sgn tx ln 0 = NN ∨ sgn tx ln 0 < 256 := by unfold sgn; split; exact Or.inr (htx 0); exact Or.inl rfl
  have hs8 : sgn tx ln 0 < 2 ^ 32 := by rcases hs9 with e | e; rw [e]; decide; omega
  refine lv_aload_n hx hb dX6_readStart_0 rfl (lv_at hl 0 rfl) ?_
  refine lv_iconst (v := (nI 0)) hx hb dX6_readStart_1 (by decide) ?_
  refine va_put (D := g) (ci := 4) (v := .int (nI 0)) (ty := .int) (C := RX6) (T := TX6) (N := 6) hx hb hts bgX6 tyX6 tyX6_ok nmX6 hown hK hP hD hS 0 rfl rfl 2 (by decide) (hts _ wd10_15) (fun _ h9 => h9) rfl (by decide +kernel) rfl rfl (Nat.le_of_ble_eq_true rfl) dX6_readStart_2 (fun H locs hP hD hS => ?_)
  have hP : va_P g vwCl [(h, .inr (4, [.ref hs, .int (nI ln), .int (nI 0), .int (nI lt), .ref hp, .int (nI pn)])), aI cy hs 120 (mS tx), aI cy hp 4 (mS pt)] H := hP
  have hD : va_D A [(h, .inr (4, [.ref hs, .int (nI ln), .int (nI 0), .int (nI lt), .ref hp, .int (nI pn)])), aI cy hs 120 (mS tx), aI cy hp 4 (mS pt)] := hD
  refine lv_aload_n hx hb dX6_readStart_5 rfl (lv_at hl 0 rfl) ?_
  refine rd_call (va_runV (As := []) (rest := []) ⟨hx, hb, hml, hown, hts⟩ (c_X6_signHere l g cy h hs hp H.size tx ln 0 lt pt pn (by omega) (by omega)) ⟨(cB 0 hts wd10_23 wd2_0 wd10_20 rfl rfl (by decide +kernel) ⟨Nat.le_of_ble_eq_true rfl, Nat.le_of_ble_eq_true rfl⟩), hts _ wd10_21, hts _ wd10_22⟩ (pv hK hP hD hS hA hX [0, 1, 2] rfl rfl 4 0 rfl rfl) rfl rfl hl.1 rfl (lv_room (Nat.le_of_ble_eq_true rfl)) dX6_readStart_6 ⟨Nat.zero_le _, Nat.zero_le _⟩) ?_
  show W _ _ _ _ _ _ _ _ _ _ _ _ _ _ _ (F0 mX 9 ls [.int (nI (sgn tx ln 0))])
  refine lv_bipush (v := (nI 77)) hx hb dX6_readStart_9 (by decide) ?_
  refine lv_icmp_eq (tgt := 16) hx hb dX6_readStart_11 (by decide) (fun c_11 => ?_) (fun c_11 => ?_)
  · have c_11 := (nc_eq9 (by omega) (by omega) c_11)
    refine lv_aload_n hx hb dX6_readStart_16 rfl (lv_at hl 0 rfl) ?_
    refine lv_dup hx hb dX6_readStart_17 rfl ?_
    refine va_get (D := g) (ci := 4) (v := .int (nI 0)) (C := RX6) (T := TX6) (N := 6) hx hb hts bgX6 hown hK hP 0 rfl rfl 2 (by decide) (hts _ wd10_15) (fun _ h9 => h9) rfl dX6_readStart_18 ?_
    refine lv_iconst (v := (nI 1)) hx hb dX6_readStart_21 (by decide) ?_
    refine lv_iadd hx hb dX6_readStart_22 ?_
    refine ti (nI_add 0 1) ?_
    refine va_put (D := g) (ci := 4) (v := .int (nI (0 + 1))) (ty := .int) (C := RX6) (T := TX6) (N := 6) hx hb hts bgX6 tyX6 tyX6_ok nmX6 hown hK hP hD hS 0 rfl rfl 2 (by decide) (hts _ wd10_15) (fun _ h9 => h9) rfl (by decide +kernel) rfl rfl (Nat.le_of_ble_eq_true rfl) dX6_readStart_23 (fun H locs hP hD hS => ?_)
    have hP : va_P g vwCl [(h, .inr (4, [.ref hs, .int (nI ln), .int (nI (0 + 1)), .int (nI lt), .ref hp, .int (nI pn)])), aI cy hs 120 (mS tx), aI cy hp 4 (mS pt)] H := hP
    have hD : va_D A [(h, .inr (4, [.ref hs, .int (nI ln), .int (nI (0 + 1)), .int (nI lt), .ref hp, .int (nI pn)])), aI cy hs 120 (mS tx), aI cy hp 4 (mS pt)] := hD
    refine lv_iconst (v := (nI 1)) hx hb dX6_readStart_26 (by decide) ?_
    exact wr_z (b := true) () rfl (by simp [c_11]) trivial (by rw [if_pos c_11]; exact hP) hS hx hb hr dX6_readStart_27 hlk
  · have c_11 := (nc_ne9 (by omega) (by omega) c_11)
    refine lv_iconst (v := (nI 0)) hx hb dX6_readStart_14 (by decide) ?_
    exact wr_z (b := false) () rfl (by simp [c_11]) trivial (by rw [if_neg c_11]; exact hP) hS hx hb hr dX6_readStart_15 hlk
set_option maxHeartbeats 4000000 in
set_option maxRecDepth 100000 in
theorem c_X6_firstError (l : Launch) (g : va_G) (cy : Nat → ClassId) (h hs hp : Nat) (sz : Nat) (tx : Nat → Nat) (ln : Nat) (p : Nat) (lt : Nat) (pt : Nat → Nat) (pn : Nat) (htx : ∀ i9, tx i9 < 256) (hln : ln ≤ 120) : Met l yX6_firstError (Cond.code yX6_firstError cX6_firstError 3 (some .int) :: wsL_law) ({ frames := 4, cells := 0, slots := 0, locals := 88 } : Room) (va_Pc [.ref h] (pr g cy [(h, .inr (4, [.ref hs, .int (nI ln), .int (nI p), .int (nI lt), .ref hp, .int (nI pn)])), aI cy hs 120 (mS tx), aI cy hp 4 (mS pt)] sz)) (wr_Q (fun u9 : (Nat) × (Nat) × (Nat → Nat) × (Nat) => (some (.int (nI (erF tx ln))))) (fun u9 : (Nat) × (Nat) × (Nat → Nat) × (Nat) => True) (fun u9 : (Nat) × (Nat) × (Nat → Nat) × (Nat) => [(h, .inr (4, [.ref hs, .int (nI ln), .int (nI u9.1), .int (nI u9.2.1), .ref hp, .int (nI u9.2.2.2)])), aI cy hs 120 (mS tx), aI cy hp 4 (mS u9.2.2.1)]) g (va_A [(h, .inr (4, [.ref hs, .int (nI ln), .int (nI p), .int (nI lt), .ref hp, .int (nI pn)])), aI cy hs 120 (mS tx), aI cy hp 4 (mS pt)] sz)) 0 0 (va_A [(h, .inr (4, [.ref hs, .int (nI ln), .int (nI p), .int (nI lt), .ref hp, .int (nI pn)])), aI cy hs 120 (mS tx), aI cy hp 4 (mS pt)] sz) := by
  refine mt_of (cc := cX6_firstError) (maxL := 3) (ret := (some .int)) (by decide +kernel) (Nat.le_of_ble_eq_true rfl) ?_
  intro pX eX s mX below meth cX ls A hx hb hr hml hown hts hlk hin hsz hAe hA hP hD hK hX hl
  subst hsz
  rw [← hAe]
  clear hAe
  have hl : lv_has ls 3 [(0, .ref h)] := hl
  have hS : va_S A s.heap s.heap [] := va_S.rf
  refine lv_aload_n hx hb dX6_firstError_0 rfl (lv_at hl 0 rfl) ?_
  refine wr_call (wc := [(h, .inr (4, [.ref hs, .int (nI ln), .int (nI p), .int (nI lt), .ref hp, .int (nI pn)])), aI cy hs 120 (mS tx), aI cy hp 4 (mS pt)]) (va_runV (As := []) (rest := []) ⟨hx, hb, hml, hown, hts⟩ (c_X6_readStart l g cy h hs hp s.heap.size tx ln p lt pt pn htx (by omega)) ⟨(cB 0 hts wd10_19 wd2_0 wd10_16 rfl rfl (by decide +kernel) ⟨Nat.le_of_ble_eq_true rfl, Nat.le_of_ble_eq_true rfl⟩), hts _ wd10_17, hts _ wd10_18⟩ (pv hK hP hD hS hA hX [0, 1, 2] rfl rfl 4 0 rfl rfl) rfl rfl hl.1 rfl (lv_room (Nat.le_of_ble_eq_true rfl)) dX6_firstError_1 ⟨Nat.zero_le _, Nat.zero_le _⟩) hP hD hS hA [0, 1, 2] rfl rfl (fun _ => (rfl : ([h, hs, hp] : List Nat) = [h, hs, hp])) ?_
  rintro _u9 H locs - hP hD hS
  have hP : va_P g vwCl [(h, .inr (4, [.ref hs, .int (nI ln), .int (nI (if sgn tx ln 0 = 77 then 1 else 0)), .int (nI lt), .ref hp, .int (nI pn)])), aI cy hs 120 (mS tx), aI cy hp 4 (mS pt)] H := hP
  have hD : va_D A [(h, .inr (4, [.ref hs, .int (nI ln), .int (nI (if sgn tx ln 0 = 77 then 1 else 0)), .int (nI lt), .ref hp, .int (nI pn)])), aI cy hs 120 (mS tx), aI cy hp 4 (mS pt)] := hD
  show W _ _ _ _ _ _ _ _ _ _ _ _ _ _ _ (F0 mX 4 ls [.int (bI (decide (sgn tx ln 0 = 77)))])
  refine lv_istore_n (lv' := [(1, .int (bI (decide (sgn tx ln 0 = 77)))), (0, .ref h)]) hx hb dX6_firstError_4 rfl hl (by decide) rfl (fun ls hl => ?_)
  refine lv_iconst (v := (nI 0)) hx hb dX6_firstError_5 (by decide) ?_
  refine lv_istore_n (lv' := [(2, .int (nI 0)), (1, .int (bI (decide (sgn tx ln 0 = 77)))), (0, .ref h)]) hx hb dX6_firstError_6 rfl hl (by decide) rfl (fun ls hl => ?_)
  refine lp_rule (σ := (Nat) × (Bool) × (Nat) × (Nat) × (Nat → Nat) × (Nat)) (fun x9 H9 locs9 ls9 => va_P g vwCl [(h, .inr (4, [.ref hs, .int (nI ln), .int (nI x9.2.2.1), .int (nI x9.2.2.2.1), .ref hp, .int (nI x9.2.2.2.2.2)])), aI cy hs 120 (mS tx), aI cy hp 4 (mS x9.2.2.2.2.1)] H9 ∧ va_D A [(h, .inr (4, [.ref hs, .int (nI ln), .int (nI x9.2.2.1), .int (nI x9.2.2.2.1), .ref hp, .int (nI x9.2.2.2.2.2)])), aI cy hs 120 (mS tx), aI cy hp 4 (mS x9.2.2.2.2.1)] ∧ va_S A s.heap H9 locs9 ∧ lv_has ls9 3 [(0, .ref h), (1, .int (bI x9.2.1)), (2, .int (nI x9.1))] ∧ (x9.1 ≤ 120) ∧ (x9.2.2.1 ≤ 120) ∧ (erF tx ln = if x9.2.1 = true then (if (txF tx ln (120 - x9.1) x9.2.2.1).1 = true then NN else (txF tx ln (120 - x9.1) x9.2.2.1).2) else x9.2.2.1)) (fun x9 => 120 - x9.1) (0, decide (sgn tx ln 0 = 77), if sgn tx ln 0 = 77 then 1 else 0, lt, pt, pn) ⟨hP, hD, hS, lv_sub hl [2, 1, 0] rfl, (by omega), (by dsimp only; split <;> omega), (by dsimp only; unfold erF; by_cases c : sgn tx ln 0 = 77 <;> simp [c])⟩ ?_
  rintro ⟨i, al9, q, l9, f9, n9⟩ H locs ls ⟨hP, hD, hS, hl, hi, hq, he⟩ ih7
  try dsimp only at hl hi hq he hP hD ih7
  refine lv_iload_n hx hb dX6_firstError_7 rfl (lv_at hl 2 rfl) ?_
  refine lv_bipush (v := (nI 120)) hx hb dX6_firstError_8 (by decide) ?_
  refine lv_icmp_ge (tgt := 35) hx hb dX6_firstError_10 (by decide) (fun c_10 => ?_) (fun c_10 => ?_)
  · have c_10 := (nc_le (by omega) (by omega) c_10)
    have hfe : erF tx ln = if al9 = true then NN else q := by rw [he]; exact er_end (Or.inl (by omega))
    refine lv_iload_n hx hb dX6_firstError_35 rfl (lv_at hl 1 rfl) ?_
    refine lv_if_eq (tgt := 43) hx hb dX6_firstError_36 (by decide) (fun c_36 => ?_) (fun c_36 => ?_)
    · have c_36 := (bI_eq0.mp c_36)
      refine lv_aload_n hx hb dX6_firstError_43 rfl (lv_at hl 0 rfl) ?_
      refine va_get (D := g) (ci := 4) (v := .int (nI q)) (C := RX6) (T := TX6) (N := 6) hx hb hts bgX6 hown hK hP 0 rfl rfl 2 (by decide) (hts _ wd10_15) (fun _ h9 => h9) rfl dX6_firstError_44 ?_
      exact wr_i (q, l9, f9, n9) (by rw [hfe, if_neg (by rw [c_36]; decide)]) trivial hP hS hx hb hr dX6_firstError_47 hlk
    · have c_36 := (bI_ne0.mp c_36)
      refine lv_iconst (v := (nI NN)) hx hb dX6_firstError_39 (by decide) ?_
      refine lv_goto (tgt := 47) hx hb dX6_firstError_40 (by decide) ?_
      exact wr_i (q, l9, f9, n9) (by rw [hfe, if_pos c_36]) trivial hP hS hx hb hr dX6_firstError_47 hlk
  · have c_10 := (nc_nle (by omega) (by omega) c_10)
    refine lv_iload_n hx hb dX6_firstError_13 rfl (lv_at hl 1 rfl) ?_
    refine lv_if_eq (tgt := 35) hx hb dX6_firstError_14 (by decide) (fun c_14 => ?_) (fun c_14 => ?_)
    · have c_14 := (bI_eq0.mp c_14)
      have hfe : erF tx ln = if al9 = true then NN else q := by rw [he]; exact er_end (Or.inr (Or.inl c_14))
      refine lv_iload_n hx hb dX6_firstError_35 rfl (lv_at hl 1 rfl) ?_
      refine lv_if_eq (tgt := 43) hx hb dX6_firstError_36 (by decide) (fun c_36 => ?_) (fun c_36 => ?_)
      · have c_36 := (bI_eq0.mp c_36)
        refine lv_aload_n hx hb dX6_firstError_43 rfl (lv_at hl 0 rfl) ?_
        refine va_get (D := g) (ci := 4) (v := .int (nI q)) (C := RX6) (T := TX6) (N := 6) hx hb hts bgX6 hown hK hP 0 rfl rfl 2 (by decide) (hts _ wd10_15) (fun _ h9 => h9) rfl dX6_firstError_44 ?_
        exact wr_i (q, l9, f9, n9) (by rw [hfe, if_neg (by rw [c_36]; decide)]) trivial hP hS hx hb hr dX6_firstError_47 hlk
      · have c_36 := (bI_ne0.mp c_36)
        refine lv_iconst (v := (nI NN)) hx hb dX6_firstError_39 (by decide) ?_
        refine lv_goto (tgt := 47) hx hb dX6_firstError_40 (by decide) ?_
        exact wr_i (q, l9, f9, n9) (by rw [hfe, if_pos c_36]) trivial hP hS hx hb hr dX6_firstError_47 hlk
    · have c_14 := (bI_ne0.mp c_14)
      refine lv_aload_n hx hb dX6_firstError_17 rfl (lv_at hl 0 rfl) ?_
      refine rd_call (va_runV (As := []) (rest := []) ⟨hx, hb, hml, hown, hts⟩ (c_X6_hasMore l g cy h hs hp H.size tx ln q l9 f9 n9 (by omega) (by omega)) ⟨(cB 0 hts wd11_3 wd2_0 wd11_0 rfl rfl (by decide +kernel) ⟨Nat.le_of_ble_eq_true rfl, Nat.le_of_ble_eq_true rfl⟩), hts _ wd11_1, hts _ wd11_2⟩ (pv hK hP hD hS hA hX [0, 1, 2] rfl rfl 4 0 rfl rfl) rfl rfl hl.1 rfl (lv_room (Nat.le_of_ble_eq_true rfl)) dX6_firstError_18 ⟨Nat.zero_le _, Nat.zero_le _⟩) ?_
      show W _ _ _ _ _ _ _ _ _ _ _ _ _ _ _ (F0 mX 21 ls [.int (bI (decide (q < ln)))])
      refine lv_if_eq (tgt := 35) hx hb dX6_firstError_21 (by decide) (fun c_21 => ?_) (fun c_21 => ?_)
      · have c_21 := (bI_eq0.mp c_21)
        have hfe : erF tx ln = if al9 = true then NN else q := by rw [he]; exact er_end (Or.inr (Or.inr (by simpa using c_21)))
        refine lv_iload_n hx hb dX6_firstError_35 rfl (lv_at hl 1 rfl) ?_
        refine lv_if_eq (tgt := 43) hx hb dX6_firstError_36 (by decide) (fun c_36 => ?_) (fun c_36 => ?_)
        · have c_36 := (bI_eq0.mp c_36)
          refine lv_aload_n hx hb dX6_firstError_43 rfl (lv_at hl 0 rfl) ?_
          refine va_get (D := g) (ci := 4) (v := .int (nI q)) (C := RX6) (T := TX6) (N := 6) hx hb hts bgX6 hown hK hP 0 rfl rfl 2 (by decide) (hts _ wd10_15) (fun _ h9 => h9) rfl dX6_firstError_44 ?_
          exact wr_i (q, l9, f9, n9) (by rw [hfe, if_neg (by rw [c_36]; decide)]) trivial hP hS hx hb hr dX6_firstError_47 hlk
        · have c_36 := (bI_ne0.mp c_36)
          refine lv_iconst (v := (nI NN)) hx hb dX6_firstError_39 (by decide) ?_
          refine lv_goto (tgt := 47) hx hb dX6_firstError_40 (by decide) ?_
          exact wr_i (q, l9, f9, n9) (by rw [hfe, if_pos c_36]) trivial hP hS hx hb hr dX6_firstError_47 hlk
      · have c_21 := (bI_ne0.mp c_21)
        have hqln : q < ln := by simpa using c_21
        have hcp := cmdF_p (f := f9) (tx := tx) hqln
        refine lv_aload_n hx hb dX6_firstError_24 rfl (lv_at hl 0 rfl) ?_
        refine wr_call (wc := [(h, .inr (4, [.ref hs, .int (nI ln), .int (nI q), .int (nI l9), .ref hp, .int (nI n9)])), aI cy hs 120 (mS tx), aI cy hp 4 (mS f9)]) (va_runV (As := []) (rest := []) ⟨hx, hb, hml, hown, hts⟩ (c_X6_readCommand l g cy h hs hp H.size tx ln q l9 f9 n9 htx (by omega) (by omega)) ⟨(cB 0 hts wd11_7 wd2_0 wd11_4 rfl rfl (by decide +kernel) ⟨Nat.le_of_ble_eq_true rfl, Nat.le_of_ble_eq_true rfl⟩), hts _ wd11_5, hts _ wd11_6⟩ (pv hK hP hD hS hA hX [0, 1, 2] rfl rfl 4 0 rfl rfl) rfl rfl hl.1 rfl (lv_room (Nat.le_of_ble_eq_true rfl)) dX6_firstError_25 ⟨Nat.zero_le _, Nat.zero_le _⟩) hP hD hS hA [0, 1, 2] rfl rfl (fun _ => (rfl : ([h, hs, hp] : List Nat) = [h, hs, hp])) ?_
        rintro ⟨q_25, pn1_25⟩ H locs ⟨hq9_25, hpc_25⟩ hP hD hS
        have hP : va_P g vwCl [(h, .inr (4, [.ref hs, .int (nI ln), .int (nI q_25.2.1), .int (nI (sgn tx ln q)), .ref hp, .int (nI pn1_25)])), aI cy hs 120 (mS tx), aI cy hp 4 (mS q_25.2.2)] H := hP
        have hD : va_D A [(h, .inr (4, [.ref hs, .int (nI ln), .int (nI q_25.2.1), .int (nI (sgn tx ln q)), .ref hp, .int (nI pn1_25)])), aI cy hs 120 (mS tx), aI cy hp 4 (mS q_25.2.2)] := hD
        have hq9_25 : q_25 = cmdF tx ln q f9 := hq9_25
        have hpc_25 : q_25.1 = true → pn1_25 = npt (sgn tx ln q) := hpc_25
        show W _ _ _ _ _ _ _ _ _ _ _ _ _ _ _ (F0 mX 28 ls [.int (bI q_25.1)])
        rw [← hq9_25] at hcp
        refine lv_istore_n (lv' := [(1, .int (bI q_25.1)), (0, .ref h), (2, .int (nI i))]) hx hb dX6_firstError_28 rfl hl (by decide) rfl (fun ls hl => ?_)
        refine lv_iinc (v := (nI (i + 1))) (lv' := [(2, .int (nI (i + 1))), (1, .int (bI q_25.1)), (0, .ref h)]) hx hb dX6_firstError_29 hl (k := 2) rfl (nI_add i 1) (by decide) rfl (fun ls hl => ?_)
        refine lv_goto (tgt := 7) hx hb dX6_firstError_32 (by decide) ?_
        exact ih7 (i + 1, q_25.1, q_25.2.1, sgn tx ln q, q_25.2.2, pn1_25) H locs ls ⟨hP, hD, hS, lv_sub hl [2, 1, 0] rfl, (by dsimp only; omega), (by dsimp only; omega), (by dsimp only; rw [he, if_pos c_14, show 120 - i = (120 - (i + 1)) + 1 by omega]; exact er_step hqln hq9_25)⟩ (by first | omega | (dsimp only; omega))
