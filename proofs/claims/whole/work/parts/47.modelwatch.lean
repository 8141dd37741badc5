/-! THE REFERENCE: watch; a board under trial. -/
theorem wth_lt {σ : Nat → Nat} {bd : Nat} (h : WF bd σ) (hn : σ 0 ≤ 6) (k : Nat) : wth σ k < 2 ^ 31 := by
  rw [← wtW_n hn]
  have := wtW_le (c := k) h hn
  omega

set_option maxHeartbeats 4000000 in
set_option maxRecDepth 100000 in
theorem c_X8_watch (l : Launch) (g : va_G) (cy : Nat → ClassId) (ma : Nat → Nat) (sz : Nat) (bd : Nat) (q : Mc) (σ : Nat → Nat) (Hh : Nat → Nat → Nat) (n : Nat) (K : Nat → Nat → Nat) (fl : Nat → Bool) (tx : Nat → Nat) (ln : Nat)  (hI : mI bd q σ Hh n K fl tx ln) : Met l yX8_watch (Cond.code yX8_watch cX8_watch 6 (some .int) :: wsL_law) ({ frames := 5, cells := 0, slots := 0, locals := 117 } : Room) (va_Pc [.ref (ma 0)] (pr g cy (mQ cy ma q σ n fl tx ln) sz)) (wr_Q (fun _ : Mc => (some (.int (nI (wat σ))))) (fun q9 : Mc => q9.2.2.2.2.2.2.2 = 0 ∧ mI bd q9 σ Hh n K fl tx ln) (fun q9 : Mc => mQ cy ma q9 σ n fl tx ln) g (va_A (mQ cy ma q σ n fl tx ln) sz)) 0 0 (va_A (mQ cy ma q σ n fl tx ln) sz) := by
  obtain ⟨tr, dy, kp, wy, hp, sp, ou, rf⟩ := q
  obtain ⟨hwf, hn14, hdy, hkp, htx, hln⟩ := hI
  have hdy : ∀ k, k < n → ∀ j, j < 248 → dy (248 * k + j) = Hh k j := hdy
  have hkp : ∀ k, k < 2 → fl k = true → ∀ j, j < 248 → kp (248 * k + j) = K k j := hkp
  refine mt_of (cc := cX8_watch) (maxL := 6) (ret := (some .int)) (by decide +kernel) (Nat.le_of_ble_eq_true rfl) ?_
  intro pX eX s mX below meth cX ls A hx hb hr hml hown hts hlk hin hsz hAe hA hP hD hK hX hl
  subst hsz
  rw [← hAe]
  clear hAe
  have hP : va_P g vwCl [(ma 0, .inr (6, [.int (nI rf), .ref (ma 1), .int (nI ln), .ref (ma 2), .ref (ma 3), .ref (ma 4), .int (nI n), .ref (ma 5), .ref (ma 6), .ref (ma 7), .ref (ma 8), .int (nI sp), .int (nI ou)])), aI cy (ma 1) 120 (mS tx), aI cy (ma 2) 248 (mS σ), aI cy (ma 3) 248 (mS tr), aI cy (ma 4) 3472 (mS dy), aI cy (ma 5) 496 (mS kp), aZ cy (ma 6) 2 (fun j => bI (fl j)), aI cy (ma 7) 144 (mS wy), aI cy (ma 8) 8 (mS hp)] s.heap := hP
  have hD : va_D A [(ma 0, .inr (6, [.int (nI rf), .ref (ma 1), .int (nI ln), .ref (ma 2), .ref (ma 3), .ref (ma 4), .int (nI n), .ref (ma 5), .ref (ma 6), .ref (ma 7), .ref (ma 8), .int (nI sp), .int (nI ou)])), aI cy (ma 1) 120 (mS tx), aI cy (ma 2) 248 (mS σ), aI cy (ma 3) 248 (mS tr), aI cy (ma 4) 3472 (mS dy), aI cy (ma 5) 496 (mS kp), aZ cy (ma 6) 2 (fun j => bI (fl j)), aI cy (ma 7) 144 (mS wy), aI cy (ma 8) 8 (mS hp)] := hD
  have hl : lv_has ls 6 [(0, .ref (ma 0))] := hl
  have hS : va_S A s.heap s.heap [] := va_S.rf
  have hn0 := hwf.n0
  have hn1 := hwf.n1
  have hh2 := hwf.h2
  refine lv_aload_n hx hb dX8_watch_0 rfl (lv_at hl 0 rfl) ?_
  refine lv_iconst (v := (nI 0)) hx hb dX8_watch_1 (by decide) ?_
  refine va_put (D := g) (ci := 6) (v := .int (nI 0)) (ty := .int) (C := RX8) (T := TX8) (N := 13) hx hb hts bgX8 tyX8 tyX8_ok nmX8 hown hK hP hD hS 0 rfl rfl 0 (by decide) (hts _ wd7_22) (fun _ h9 => h9) rfl (by decide +kernel) rfl rfl (Nat.le_of_ble_eq_true rfl) dX8_watch_2 (fun H locs hP hD hS => ?_)
  have hP : va_P g vwCl [(ma 0, .inr (6, [.int (nI 0), .ref (ma 1), .int (nI ln), .ref (ma 2), .ref (ma 3), .ref (ma 4), .int (nI n), .ref (ma 5), .ref (ma 6), .ref (ma 7), .ref (ma 8), .int (nI sp), .int (nI ou)])), aI cy (ma 1) 120 (mS tx), aI cy (ma 2) 248 (mS σ), aI cy (ma 3) 248 (mS tr), aI cy (ma 4) 3472 (mS dy), aI cy (ma 5) 496 (mS kp), aZ cy (ma 6) 2 (fun j => bI (fl j)), aI cy (ma 7) 144 (mS wy), aI cy (ma 8) 8 (mS hp)] H := hP
  have hD : va_D A [(ma 0, .inr (6, [.int (nI 0), .ref (ma 1), .int (nI ln), .ref (ma 2), .ref (ma 3), .ref (ma 4), .int (nI n), .ref (ma 5), .ref (ma 6), .ref (ma 7), .ref (ma 8), .int (nI sp), .int (nI ou)])), aI cy (ma 1) 120 (mS tx), aI cy (ma 2) 248 (mS σ), aI cy (ma 3) 248 (mS tr), aI cy (ma 4) 3472 (mS dy), aI cy (ma 5) 496 (mS kp), aZ cy (ma 6) 2 (fun j => bI (fl j)), aI cy (ma 7) 144 (mS wy), aI cy (ma 8) 8 (mS hp)] := hD
  refine lv_aload_n hx hb dX8_watch_5 rfl (lv_at hl 0 rfl) ?_
  refine lv_aload_n hx hb dX8_watch_6 rfl (lv_at hl 0 rfl) ?_
  refine va_get (D := g) (ci := 6) (v := .ref (ma 2)) (C := RX8) (T := TX8) (N := 13) hx hb hts bgX8 hown hK hP 0 rfl rfl 3 (by decide) (hts _ wd5_21) (fun _ h9 => h9) rfl dX8_watch_7 ?_
  refine wr_call (wc := [(ma 0, .inr (6, [.int (nI 0), .ref (ma 1), .int (nI ln), .ref (ma 2), .ref (ma 3), .ref (ma 4), .int (nI n), .ref (ma 5), .ref (ma 6), .ref (ma 7), .ref (ma 8), .int (nI sp), .int (nI ou)])), aI cy (ma 7) 144 (mS wy), aI cy (ma 2) 248 (mS σ)]) (va_runV (As := [.ref (ma 2)]) (rest := []) ⟨hx, hb, hml, hown, hts⟩ (c_X8_measure l g cy (ma 0) (ma 1) (ma 2) (ma 3) (ma 4) (ma 5) (ma 6) (ma 7) (ma 8) (ma 2) H.size 0 ln n sp ou wy σ bd hwf) ⟨(cB 1 hts wd13_20 wd1_5 wd13_17 rfl rfl (by decide +kernel) ⟨Nat.le_of_ble_eq_true rfl, Nat.le_of_ble_eq_true rfl⟩), hts _ wd13_18, hts _ wd13_19⟩ (pv hK hP hD hS hA hX [0, 7, 2] rfl rfl 6 0 rfl rfl) rfl rfl hl.1 rfl (lv_room (Nat.le_of_ble_eq_true rfl)) dX8_watch_10 ⟨Nat.zero_le _, Nat.zero_le _⟩) hP hD hS hA [0, 7, 2] rfl rfl (fun _ => (rfl : ([ma 0, ma 7, ma 2] : List Nat) = [ma 0, ma 7, ma 2])) ?_
  rintro _u9 H locs - hP hD hS
  have hP : va_P g vwCl [(ma 0, .inr (6, [.int (nI 0), .ref (ma 1), .int (nI ln), .ref (ma 2), .ref (ma 3), .ref (ma 4), .int (nI n), .ref (ma 5), .ref (ma 6), .ref (ma 7), .ref (ma 8), .int (nI sp), .int (nI ou)])), aI cy (ma 1) 120 (mS tx), aI cy (ma 2) 248 (mS σ), aI cy (ma 3) 248 (mS tr), aI cy (ma 4) 3472 (mS dy), aI cy (ma 5) 496 (mS kp), aZ cy (ma 6) 2 (fun j => bI (fl j)), aI cy (ma 7) 144 (mS (D σ)), aI cy (ma 8) 8 (mS hp)] H := hP
  have hD : va_D A [(ma 0, .inr (6, [.int (nI 0), .ref (ma 1), .int (nI ln), .ref (ma 2), .ref (ma 3), .ref (ma 4), .int (nI n), .ref (ma 5), .ref (ma 6), .ref (ma 7), .ref (ma 8), .int (nI sp), .int (nI ou)])), aI cy (ma 1) 120 (mS tx), aI cy (ma 2) 248 (mS σ), aI cy (ma 3) 248 (mS tr), aI cy (ma 4) 3472 (mS dy), aI cy (ma 5) 496 (mS kp), aZ cy (ma 6) 2 (fun j => bI (fl j)), aI cy (ma 7) 144 (mS (D σ)), aI cy (ma 8) 8 (mS hp)] := hD
  show W _ _ _ _ _ _ _ _ _ _ _ _ _ _ _ (F0 mX 13 ls [])
  refine lv_iconst (v := (nI NN)) hx hb dX8_watch_13 (by decide) ?_
  refine lv_istore_n (lv' := [(1, .int (nI NN)), (0, .ref (ma 0))]) hx hb dX8_watch_14 rfl hl (by decide) rfl (fun ls hl => ?_)
  refine lv_iconst (v := (nI NN)) hx hb dX8_watch_15 (by decide) ?_
  refine lv_istore_n (lv' := [(2, .int (nI NN)), (1, .int (nI NN)), (0, .ref (ma 0))]) hx hb dX8_watch_16 rfl hl (by decide) rfl (fun ls hl => ?_)
  refine lv_iconst (v := (nI 0)) hx hb dX8_watch_17 (by decide) ?_
  refine lv_istore_n (lv' := [(3, .int (nI 0)), (2, .int (nI NN)), (1, .int (nI NN)), (0, .ref (ma 0))]) hx hb dX8_watch_18 rfl hl (by decide) rfl (fun ls hl => ?_)
  have hl : lv_has ls 6 [(3, .int (nI 0)), (2, .int (nI NN)), (1, .int (nI (wtB σ 0))), (0, .ref (ma 0))] := by rw [← show (nI NN) = (nI (wtB σ 0)) from rfl]; exact hl
  have hl : lv_has ls 6 [(3, .int (nI 0)), (2, .int (wtM σ 0)), (1, .int (nI (wtB σ 0))), (0, .ref (ma 0))] := by rw [← show (nI NN) = (wtM σ 0) from (show nI NN = -1 from by decide)]; exact hl
  refine lp_rule (σ := (Nat)) (fun x9 H9 locs9 ls9 => va_P g vwCl [(ma 0, .inr (6, [.int (nI 0), .ref (ma 1), .int (nI ln), .ref (ma 2), .ref (ma 3), .ref (ma 4), .int (nI n), .ref (ma 5), .ref (ma 6), .ref (ma 7), .ref (ma 8), .int (nI sp), .int (nI ou)])), aI cy (ma 1) 120 (mS tx), aI cy (ma 2) 248 (mS σ), aI cy (ma 3) 248 (mS tr), aI cy (ma 4) 3472 (mS dy), aI cy (ma 5) 496 (mS kp), aZ cy (ma 6) 2 (fun j => bI (fl j)), aI cy (ma 7) 144 (mS (D σ)), aI cy (ma 8) 8 (mS hp)] H9 ∧ va_D A [(ma 0, .inr (6, [.int (nI 0), .ref (ma 1), .int (nI ln), .ref (ma 2), .ref (ma 3), .ref (ma 4), .int (nI n), .ref (ma 5), .ref (ma 6), .ref (ma 7), .ref (ma 8), .int (nI sp), .int (nI ou)])), aI cy (ma 1) 120 (mS tx), aI cy (ma 2) 248 (mS σ), aI cy (ma 3) 248 (mS tr), aI cy (ma 4) 3472 (mS dy), aI cy (ma 5) 496 (mS kp), aZ cy (ma 6) 2 (fun j => bI (fl j)), aI cy (ma 7) 144 (mS (D σ)), aI cy (ma 8) 8 (mS hp)] ∧ va_S A s.heap H9 locs9 ∧ lv_has ls9 6 [(0, .ref (ma 0)), (1, .int (nI (wtB σ x9))), (2, .int (wtM σ x9)), (3, .int (nI x9))] ∧ (x9 ≤ 12) ∧ (x9 = 0 ∨ 0 < ct (msg σ) (σ 0))) (fun x9 => 12 - x9) (0) ⟨hP, hD, hS, lv_sub hl [3, 2, 1, 0] rfl, (by omega), (Or.inl rfl)⟩ ?_
  rintro c H locs ls ⟨hP, hD, hS, hl, hc, hms⟩ ih19
  try dsimp only at hl hc hms hP hD ih19
  refine lv_iload_n hx hb dX8_watch_19 rfl (lv_at hl 3 rfl) ?_
  refine lv_bipush (v := (nI 12)) hx hb dX8_watch_20 (by decide) ?_
  refine lv_icmp_ge (tgt := 137) hx hb dX8_watch_22 (by decide) (fun c_22 => ?_) (fun c_22 => ?_)
  · have c_22 := (nc_le (by omega) (by omega) c_22)
    refine lv_iload_n hx hb dX8_watch_137 rfl (lv_at hl 1 rfl) ?_
    obtain rfl : c = 12 := by omega
    exact wr_i (tr, dy, kp, D σ, hp, sp, ou, 0) (by unfold wat; rw [if_neg (by omega)]; rfl) ⟨rfl, ⟨hwf, hn14, hdy, hkp, htx, hln⟩⟩ hP hS hx hb hr dX8_watch_138 hlk
  · have c_22 := (nc_nle (by omega) (by omega) c_22)
    refine lv_aload_n hx hb dX8_watch_25 rfl (lv_at hl 0 rfl) ?_
    refine va_get (D := g) (ci := 6) (v := .ref (ma 2)) (C := RX8) (T := TX8) (N := 13) hx hb hts bgX8 hown hK hP 0 rfl rfl 3 (by decide) (hts _ wd5_21) (fun _ h9 => h9) rfl dX8_watch_26 ?_
    have hct9 := ct_le (msg σ) (σ 0)
    refine rd_call (va_runS (As := [.ref (ma 2)]) (rest := []) ⟨hx, hb, hml, hown, hts⟩ (c_X8_missing l g cy (ma 2) H.size σ bd hwf) ⟨(cB 1 hts wd24_10 wd1_5 wd24_8 rfl rfl (by decide +kernel) ⟨Nat.le_of_ble_eq_true rfl, Nat.le_of_ble_eq_true rfl⟩), hts _ wd24_9⟩ (ps hK hP hD hS hA hX [2] rfl rfl) rfl rfl hl.1 rfl (lv_room (Nat.le_of_ble_eq_true rfl)) dX8_watch_29 ⟨Nat.zero_le _, Nat.zero_le _⟩) ?_
    show W _ _ _ _ _ _ _ _ _ _ _ _ _ _ _ (F0 mX 32 ls [.int (nI (ct (msg σ) (σ 0)))])
    refine lv_if_le (tgt := 137) hx hb dX8_watch_32 (by decide) (fun c_32 => ?_) (fun c_32 => ?_)
    · have c_32 := (nz_le' c_32 (by omega))
      refine lv_iload_n hx hb dX8_watch_137 rfl (lv_at hl 1 rfl) ?_
      have c_0 : c = 0 := by omega
      subst c_0
      exact wr_i (tr, dy, kp, D σ, hp, sp, ou, 0) (by unfold wat; rw [if_pos (by omega)]; rfl) ⟨rfl, ⟨hwf, hn14, hdy, hkp, htx, hln⟩⟩ hP hS hx hb hr dX8_watch_138 hlk
    · have c_32 := (nz_gt' c_32 (by omega))
      refine lv_iconst (v := (nI 0)) hx hb dX8_watch_35 (by decide) ?_
      refine lv_istore (lv' := [(4, .int (nI 0)), (0, .ref (ma 0)), (1, .int (nI (wtB σ c))), (2, .int (wtM σ c)), (3, .int (nI c))]) hx hb dX8_watch_36 hl (by decide) rfl (fun ls hl => ?_)
      refine lv_iconst (v := (nI 0)) hx hb dX8_watch_38 (by decide) ?_
      refine lv_istore (lv' := [(5, .int (nI 0)), (4, .int (nI 0)), (0, .ref (ma 0)), (1, .int (nI (wtB σ c))), (2, .int (wtM σ c)), (3, .int (nI c))]) hx hb dX8_watch_39 hl (by decide) rfl (fun ls hl => ?_)
      have hl : lv_has ls 6 [(5, .int (nI 0)), (4, .int (nI (wtW σ c 0))), (0, .ref (ma 0)), (1, .int (nI (wtB σ c))), (2, .int (wtM σ c)), (3, .int (nI c))] := by rw [← show (nI 0) = (nI (wtW σ c 0)) from rfl]; exact hl
      refine lp_rd (σ := (Nat)) (fun x9 ls9 => lv_has ls9 6 [(0, .ref (ma 0)), (1, .int (nI (wtB σ c))), (2, .int (wtM σ c)), (3, .int (nI c)), (4, .int (nI (wtW σ c x9))), (5, .int (nI x9))] ∧ (x9 ≤ σ 0)) (fun x9 => σ 0 - x9) (0) ⟨lv_sub hl [2, 3, 4, 5, 1, 0] rfl, (by omega)⟩ ?_
      rintro d ls ⟨hl, hd⟩ ih41
      try dsimp only at hl hd ih41
      refine lv_iload hx hb dX8_watch_41 (lv_at hl 5 rfl) ?_
      refine lv_aload_n hx hb dX8_watch_43 rfl (lv_at hl 0 rfl) ?_
      refine va_get (D := g) (ci := 6) (v := .ref (ma 2)) (C := RX8) (T := TX8) (N := 13) hx hb hts bgX8 hown hK hP 0 rfl rfl 3 (by decide) (hts _ wd5_21) (fun _ h9 => h9) rfl dX8_watch_44 ?_
      refine lv_iconst (v := (nI 0)) hx hb dX8_watch_47 (by decide) ?_
      refine va_iald hx hb hK hP 2 0 rfl rfl (vp_in_nI (n := 0) (by omega) (by omega)) dX8_watch_48 ?_
      refine ti (show (mS σ) (nI 0).toNatClampNeg = nI (σ 0) from by rw [nI_clamp (by omega)]; rfl) ?_
      refine lv_icmp_ge (tgt := 106) hx hb dX8_watch_49 (by decide) (fun c_49 => ?_) (fun c_49 => ?_)
      · have c_49 := (nc_le (by omega) (by omega) c_49)
        have e9 : d = σ 0 := by omega
        subst e9
        refine lv_iload hx hb dX8_watch_106 (lv_at hl 4 rfl) ?_
        refine ti (show (nI (wtW σ c (σ 0))) = (nI (wth σ c)) from (congrArg nI (wtW_n hn0))) ?_
        refine lv_iload_n hx hb dX8_watch_108 rfl (lv_at hl 2 rfl) ?_
        refine lv_icmp_le (tgt := 116) hx hb dX8_watch_109 (by decide) (fun c_109 => ?_) (fun c_109 => ?_)
        · skip
          refine lv_iload_n hx hb dX8_watch_116 rfl (lv_at hl 1 rfl) ?_
          refine lv_istore_n (lv' := [(1, .int (nI (wtB σ c))), (0, .ref (ma 0)), (2, .int (wtM σ c)), (3, .int (nI c)), (4, .int (nI (wtW σ c (σ 0)))), (5, .int (nI (σ 0)))]) hx hb dX8_watch_117 rfl hl (by decide) rfl (fun ls hl => ?_)
          refine lv_iload hx hb dX8_watch_118 (lv_at hl 4 rfl) ?_
          refine ti (show (nI (wtW σ c (σ 0))) = (nI (wth σ c)) from (congrArg nI (wtW_n hn0))) ?_
          refine lv_iload_n hx hb dX8_watch_120 rfl (lv_at hl 2 rfl) ?_
          refine lv_icmp_le (tgt := 129) hx hb dX8_watch_121 (by decide) (fun c_121 => ?_) (fun c_121 => ?_)
          · skip
            refine lv_iload_n hx hb dX8_watch_129 rfl (lv_at hl 2 rfl) ?_
            refine lv_istore_n (lv' := [(2, .int (wtM σ c)), (1, .int (nI (wtB σ c))), (0, .ref (ma 0)), (3, .int (nI c)), (4, .int (nI (wtW σ c (σ 0)))), (5, .int (nI (σ 0)))]) hx hb dX8_watch_130 rfl hl (by decide) rfl (fun ls hl => ?_)
            have hl : lv_has ls 6 [(2, .int (wtM σ c)), (1, .int (nI (wtB σ (c + 1)))), (0, .ref (ma 0)), (3, .int (nI c)), (4, .int (nI (wtW σ c (σ 0)))), (5, .int (nI (σ 0)))] := by rw [← show (nI (wtB σ c)) = (nI (wtB σ (c + 1))) from (congrArg nI ((wtB_s hwf (wth_lt hwf hn0)).2 (Int32.not_lt.mpr c_109)).1.symm)]; exact hl
            have hl : lv_has ls 6 [(2, .int (wtM σ (c + 1))), (1, .int (nI (wtB σ (c + 1)))), (0, .ref (ma 0)), (3, .int (nI c)), (4, .int (nI (wtW σ c (σ 0)))), (5, .int (nI (σ 0)))] := by rw [← show (wtM σ c) = (wtM σ (c + 1)) from ((wtB_s hwf (wth_lt hwf hn0)).2 (Int32.not_lt.mpr c_109)).2.symm]; exact hl
            refine lv_iinc (v := (nI (c + 1))) (lv' := [(3, .int (nI (c + 1))), (2, .int (wtM σ (c + 1))), (1, .int (nI (wtB σ (c + 1)))), (0, .ref (ma 0)), (4, .int (nI (wtW σ c (σ 0)))), (5, .int (nI (σ 0)))]) hx hb dX8_watch_131 hl (k := 3) rfl (nI_add c 1) (by decide) rfl (fun ls hl => ?_)
            refine lv_goto (tgt := 19) hx hb dX8_watch_134 (by decide) ?_
            exact ih19 (c + 1) H locs ls ⟨hP, hD, hS, lv_sub hl [3, 2, 1, 0] rfl, (by omega), (Or.inr (by omega))⟩ (by first | omega | (dsimp only; omega))
          · skip
            exact absurd c_109 c_121
        · skip
          refine lv_iload_n hx hb dX8_watch_112 rfl (lv_at hl 3 rfl) ?_
          refine lv_goto (tgt := 117) hx hb dX8_watch_113 (by decide) ?_
          refine lv_istore_n (lv' := [(1, .int (nI c)), (0, .ref (ma 0)), (2, .int (wtM σ c)), (3, .int (nI c)), (4, .int (nI (wtW σ c (σ 0)))), (5, .int (nI (σ 0)))]) hx hb dX8_watch_117 rfl hl (by decide) rfl (fun ls hl => ?_)
          refine lv_iload hx hb dX8_watch_118 (lv_at hl 4 rfl) ?_
          refine ti (show (nI (wtW σ c (σ 0))) = (nI (wth σ c)) from (congrArg nI (wtW_n hn0))) ?_
          refine lv_iload_n hx hb dX8_watch_120 rfl (lv_at hl 2 rfl) ?_
          refine lv_icmp_le (tgt := 129) hx hb dX8_watch_121 (by decide) (fun c_121 => ?_) (fun c_121 => ?_)
          · skip
            exact absurd c_121 c_109
          · skip
            refine lv_iload hx hb dX8_watch_124 (lv_at hl 4 rfl) ?_
            refine ti (show (nI (wtW σ c (σ 0))) = (nI (wth σ c)) from (congrArg nI (wtW_n hn0))) ?_
            refine lv_goto (tgt := 130) hx hb dX8_watch_126 (by decide) ?_
            refine lv_istore_n (lv' := [(2, .int (nI (wth σ c))), (1, .int (nI c)), (0, .ref (ma 0)), (3, .int (nI c)), (4, .int (nI (wtW σ c (σ 0)))), (5, .int (nI (σ 0)))]) hx hb dX8_watch_130 rfl hl (by decide) rfl (fun ls hl => ?_)
            have hl : lv_has ls 6 [(2, .int (nI (wth σ c))), (1, .int (nI (wtB σ (c + 1)))), (0, .ref (ma 0)), (3, .int (nI c)), (4, .int (nI (wtW σ c (σ 0)))), (5, .int (nI (σ 0)))] := by rw [← show (nI c) = (nI (wtB σ (c + 1))) from (congrArg nI ((wtB_s hwf (wth_lt hwf hn0)).1 (Int32.not_le.mp c_109)).1.symm)]; exact hl
            have hl : lv_has ls 6 [(2, .int (wtM σ (c + 1))), (1, .int (nI (wtB σ (c + 1)))), (0, .ref (ma 0)), (3, .int (nI c)), (4, .int (nI (wtW σ c (σ 0)))), (5, .int (nI (σ 0)))] := by rw [← show (nI (wth σ c)) = (wtM σ (c + 1)) from ((wtB_s hwf (wth_lt hwf hn0)).1 (Int32.not_le.mp c_109)).2.symm]; exact hl
            refine lv_iinc (v := (nI (c + 1))) (lv' := [(3, .int (nI (c + 1))), (2, .int (wtM σ (c + 1))), (1, .int (nI (wtB σ (c + 1)))), (0, .ref (ma 0)), (4, .int (nI (wtW σ c (σ 0)))), (5, .int (nI (σ 0)))]) hx hb dX8_watch_131 hl (k := 3) rfl (nI_add c 1) (by decide) rfl (fun ls hl => ?_)
            refine lv_goto (tgt := 19) hx hb dX8_watch_134 (by decide) ?_
            exact ih19 (c + 1) H locs ls ⟨hP, hD, hS, lv_sub hl [3, 2, 1, 0] rfl, (by omega), (Or.inr (by omega))⟩ (by first | omega | (dsimp only; omega))
      · have c_49 := (nc_nle (by omega) (by omega) c_49)
        have hdb := hwf.db (show d < σ 0 by omega)
        have hpb := plc_bit (σ := σ) (show d < σ 0 by omega) (show c < 12 by omega)
        refine lv_iload hx hb dX8_watch_52 (lv_at hl 4 rfl) ?_
        refine jn_i (pcj := 97) (ls := ls) (st := [.int (nI (wtW σ c d))]) (fun v9 => v9 = (nI (if (plc σ d).testBit c then 10000000 + dg σ d 4 else 0))) ?_ (fun jn97 => ?_)
        · intro v9 hv9
          subst hv9
          refine lv_iadd hx hb dX8_watch_97 ?_
          refine ti (nI_add (wtW σ c d) (if (plc σ d).testBit c then 10000000 + dg σ d 4 else 0)) ?_
          refine ti (show (nI ((wtW σ c d) + (if (plc σ d).testBit c then 10000000 + dg σ d 4 else 0))) = (nI (wtW σ c (d + 1))) from rfl) ?_
          refine lv_istore (lv' := [(4, .int (nI (wtW σ c (d + 1)))), (0, .ref (ma 0)), (1, .int (nI (wtB σ c))), (2, .int (wtM σ c)), (3, .int (nI c)), (5, .int (nI d))]) hx hb dX8_watch_98 hl (by decide) rfl (fun ls hl => ?_)
          refine lv_iinc (v := (nI (d + 1))) (lv' := [(5, .int (nI (d + 1))), (4, .int (nI (wtW σ c (d + 1)))), (0, .ref (ma 0)), (1, .int (nI (wtB σ c))), (2, .int (wtM σ c)), (3, .int (nI c))]) hx hb dX8_watch_100 hl (k := 5) rfl (nI_add d 1) (by decide) rfl (fun ls hl => ?_)
          refine lv_goto (tgt := 41) hx hb dX8_watch_103 (by decide) ?_
          exact ih41 (d + 1) ls ⟨lv_sub hl [2, 3, 4, 5, 1, 0] rfl, (by omega)⟩ (by first | omega | (dsimp only; omega))
        · skip
          refine lv_aload_n hx hb dX8_watch_54 rfl (lv_at hl 0 rfl) ?_
          refine va_get (D := g) (ci := 6) (v := .ref (ma 2)) (C := RX8) (T := TX8) (N := 13) hx hb hts bgX8 hown hK hP 0 rfl rfl 3 (by decide) (hts _ wd5_21) (fun _ h9 => h9) rfl dX8_watch_55 ?_
          refine lv_iload hx hb dX8_watch_58 (lv_at hl 5 rfl) ?_
          refine rd_call (va_runS (As := [.ref (ma 2), .int (nI d)]) (rest := [.int (nI (wtW σ c d))]) ⟨hx, hb, hml, hown, hts⟩ (c_X8_isMissing l g cy (ma 2) H.size σ d (by omega) (by omega)) ⟨(cB 2 hts wd12_20 wd1_5 wd12_18 rfl rfl (by decide +kernel) ⟨Nat.le_of_ble_eq_true rfl, Nat.le_of_ble_eq_true rfl⟩), hts _ wd12_19⟩ (ps hK hP hD hS hA hX [2] rfl rfl) rfl rfl hl.1 rfl (lv_room (Nat.le_of_ble_eq_true rfl)) dX8_watch_60 ⟨Nat.zero_le _, Nat.zero_le _⟩) ?_
          show W _ _ _ _ _ _ _ _ _ _ _ _ _ _ _ (F0 mX 63 ls [.int (bI (msg σ d)), .int (nI (wtW σ c d))])
          refine lv_if_eq (tgt := 96) hx hb dX8_watch_63 (by decide) (fun c_63 => ?_) (fun c_63 => ?_)
          · have c_63 := (bI_eq0.mp c_63)
            refine lv_iconst (v := (nI 0)) hx hb dX8_watch_96 (by decide) ?_
            exact jn97 _ (congrArg nI (by rw [hpb, c_63]; rfl))
          · have c_63 := (bI_ne0.mp c_63)
            refine lv_aload_n hx hb dX8_watch_66 rfl (lv_at hl 0 rfl) ?_
            refine lv_aload_n hx hb dX8_watch_67 rfl (lv_at hl 0 rfl) ?_
            refine va_get (D := g) (ci := 6) (v := .ref (ma 2)) (C := RX8) (T := TX8) (N := 13) hx hb hts bgX8 hown hK hP 0 rfl rfl 3 (by decide) (hts _ wd5_21) (fun _ h9 => h9) rfl dX8_watch_68 ?_
            refine lv_iload hx hb dX8_watch_71 (lv_at hl 5 rfl) ?_
            refine lv_iload_n hx hb dX8_watch_73 rfl (lv_at hl 3 rfl) ?_
            refine rd_call (va_runV (As := [.ref (ma 2), .int (nI d), .int (nI c)]) (rest := [.int (nI (wtW σ c d))]) ⟨hx, hb, hml, hown, hts⟩ (c_X8_canBeAt l g cy (ma 0) (ma 1) (ma 2) (ma 3) (ma 4) (ma 5) (ma 6) (ma 7) (ma 8) (ma 2) H.size 0 ln n sp ou (D σ) σ bd d c hwf (fun _ _ => rfl) (by omega) (by omega)) ⟨(cB 3 hts wd36_0 wd1_5 wd35_21 rfl rfl (by decide +kernel) ⟨Nat.le_of_ble_eq_true rfl, Nat.le_of_ble_eq_true rfl⟩), hts _ wd35_22, hts _ wd35_23⟩ (pv hK hP hD hS hA hX [0, 7, 2] rfl rfl 6 0 rfl rfl) rfl rfl hl.1 rfl (lv_room (Nat.le_of_ble_eq_true rfl)) dX8_watch_74 ⟨Nat.zero_le _, Nat.zero_le _⟩) ?_
            show W _ _ _ _ _ _ _ _ _ _ _ _ _ _ _ (F0 mX 77 ls [.int (bI (cbe σ d c)), .int (nI (wtW σ c d))])
            refine lv_if_eq (tgt := 96) hx hb dX8_watch_77 (by decide) (fun c_77 => ?_) (fun c_77 => ?_)
            · have c_77 := (bI_eq0.mp c_77)
              refine lv_iconst (v := (nI 0)) hx hb dX8_watch_96 (by decide) ?_
              exact jn97 _ (congrArg nI (by rw [hpb, c_63, c_77]; rfl))
            · have c_77 := (bI_ne0.mp c_77)
              refine lv_ldc hx hb hown (hts _ wd36_22) dX8_watch_80 ?_
              refine ti (show (10000000 : Int32) = nI 10000000 from by decide) ?_
              refine lv_aload_n hx hb dX8_watch_82 rfl (lv_at hl 0 rfl) ?_
              refine va_get (D := g) (ci := 6) (v := .ref (ma 2)) (C := RX8) (T := TX8) (N := 13) hx hb hts bgX8 hown hK hP 0 rfl rfl 3 (by decide) (hts _ wd5_21) (fun _ h9 => h9) rfl dX8_watch_83 ?_
              refine lv_iload hx hb dX8_watch_86 (lv_at hl 5 rfl) ?_
              refine lv_iconst (v := (nI 4)) hx hb dX8_watch_88 (by decide) ?_
              refine rd_call (va_runS (As := [.ref (ma 2), .int (nI d), .int (nI 4)]) (rest := [.int (nI 10000000), .int (nI (wtW σ c d))]) ⟨hx, hb, hml, hown, hts⟩ (c_X8_ofDog l g cy (ma 2) H.size σ d 4 (by omega) (by omega)) ⟨(cB 3 hts wd12_23 wd1_5 wd12_21 rfl rfl (by decide +kernel) ⟨Nat.le_of_ble_eq_true rfl, Nat.le_of_ble_eq_true rfl⟩), hts _ wd12_22⟩ (ps hK hP hD hS hA hX [2] rfl rfl) rfl rfl hl.1 rfl (lv_room (Nat.le_of_ble_eq_true rfl)) dX8_watch_89 ⟨Nat.zero_le _, Nat.zero_le _⟩) ?_
              show W _ _ _ _ _ _ _ _ _ _ _ _ _ _ _ (F0 mX 92 ls [.int (nI (dg σ d 4)), .int (nI 10000000), .int (nI (wtW σ c d))])
              refine lv_iadd hx hb dX8_watch_92 ?_
              refine ti (nI_add 10000000 (dg σ d 4)) ?_
              refine lv_goto (tgt := 97) hx hb dX8_watch_93 (by decide) ?_
              exact jn97 _ (congrArg nI (by rw [hpb, c_63, c_77]; rfl))
set_option maxHeartbeats 4000000 in
set_option maxRecDepth 100000 in
theorem c_X8_canBeNow (l : Launch) (g : va_G) (cy : Nat → ClassId) (sz : Nat) (ma : Nat → Nat) (τ : Nat → Nat) (dy : Nat → Nat) (kp : Nat → Nat) (wy : Nat → Nat) (hp : Nat → Nat) (sp : Nat) (ou : Nat) (rf : Nat) (σ : Nat → Nat) (n : Nat) (fl : Nat → Bool) (tx : Nat → Nat) (ln : Nat) (d : Nat) (c : Nat) (bd : Nat) (hwf : WF bd τ) (hd : d < τ 0) (hc9 : c < 12) : Met l yX8_canBeNow (Cond.code yX8_canBeNow cX8_canBeNow 3 (some .boolean) :: wsL_law) ({ frames := 5, cells := 0, slots := 0, locals := 117 } : Room) (va_Pc [.ref (ma 0), .int (nI d), .int (nI c)] (pr g cy [(ma 0, .inr (6, [.int (nI rf), .ref (ma 1), .int (nI ln), .ref (ma 2), .ref (ma 3), .ref (ma 4), .int (nI n), .ref (ma 5), .ref (ma 6), .ref (ma 7), .ref (ma 8), .int (nI sp), .int (nI ou)])), aI cy (ma 1) 120 (mS tx), aI cy (ma 2) 248 (mS σ), aI cy (ma 3) 248 (mS τ), aI cy (ma 4) 3472 (mS dy), aI cy (ma 5) 496 (mS kp), aZ cy (ma 6) 2 (fun j => bI (fl j)), aI cy (ma 7) 144 (mS wy), aI cy (ma 8) 8 (mS hp)] sz)) (wr_Q (fun _ : Unit => (some (.int (bI (cbe τ d c))))) (fun _ : Unit => True) (fun _ : Unit => [(ma 0, .inr (6, [.int (nI rf), .ref (ma 1), .int (nI ln), .ref (ma 2), .ref (ma 3), .ref (ma 4), .int (nI n), .ref (ma 5), .ref (ma 6), .ref (ma 7), .ref (ma 8), .int (nI sp), .int (nI ou)])), aI cy (ma 1) 120 (mS tx), aI cy (ma 2) 248 (mS σ), aI cy (ma 3) 248 (mS τ), aI cy (ma 4) 3472 (mS dy), aI cy (ma 5) 496 (mS kp), aZ cy (ma 6) 2 (fun j => bI (fl j)), aI cy (ma 7) 144 (mS (D τ)), aI cy (ma 8) 8 (mS hp)]) g (va_A [(ma 0, .inr (6, [.int (nI rf), .ref (ma 1), .int (nI ln), .ref (ma 2), .ref (ma 3), .ref (ma 4), .int (nI n), .ref (ma 5), .ref (ma 6), .ref (ma 7), .ref (ma 8), .int (nI sp), .int (nI ou)])), aI cy (ma 1) 120 (mS tx), aI cy (ma 2) 248 (mS σ), aI cy (ma 3) 248 (mS τ), aI cy (ma 4) 3472 (mS dy), aI cy (ma 5) 496 (mS kp), aZ cy (ma 6) 2 (fun j => bI (fl j)), aI cy (ma 7) 144 (mS wy), aI cy (ma 8) 8 (mS hp)] sz)) 0 0 (va_A [(ma 0, .inr (6, [.int (nI rf), .ref (ma 1), .int (nI ln), .ref (ma 2), .ref (ma 3), .ref (ma 4), .int (nI n), .ref (ma 5), .ref (ma 6), .ref (ma 7), .ref (ma 8), .int (nI sp), .int (nI ou)])), aI cy (ma 1) 120 (mS tx), aI cy (ma 2) 248 (mS σ), aI cy (ma 3) 248 (mS τ), aI cy (ma 4) 3472 (mS dy), aI cy (ma 5) 496 (mS kp), aZ cy (ma 6) 2 (fun j => bI (fl j)), aI cy (ma 7) 144 (mS wy), aI cy (ma 8) 8 (mS hp)] sz) := by
  refine mt_of (cc := cX8_canBeNow) (maxL := 3) (ret := (some .boolean)) (by decide +kernel) (Nat.le_of_ble_eq_true rfl) ?_
  intro pX eX s mX below meth cX ls A hx hb hr hml hown hts hlk hin hsz hAe hA hP hD hK hX hl
  subst hsz
  rw [← hAe]
  clear hAe
  have hl : lv_has ls 3 [(0, .ref (ma 0)), (1, .int (nI d)), (2, .int (nI c))] := hl
  have hS : va_S A s.heap s.heap [] := va_S.rf
  refine lv_aload_n hx hb dX8_canBeNow_0 rfl (lv_at hl 0 rfl) ?_
  refine lv_aload_n hx hb dX8_canBeNow_1 rfl (lv_at hl 0 rfl) ?_
  refine va_get (D := g) (ci := 6) (v := .ref (ma 3)) (C := RX8) (T := TX8) (N := 13) hx hb hts bgX8 hown hK hP 0 rfl rfl 4 (by decide) (hts _ wd5_22) (fun _ h9 => h9) rfl dX8_canBeNow_2 ?_
  refine wr_call (wc := [(ma 0, .inr (6, [.int (nI rf), .ref (ma 1), .int (nI ln), .ref (ma 2), .ref (ma 3), .ref (ma 4), .int (nI n), .ref (ma 5), .ref (ma 6), .ref (ma 7), .ref (ma 8), .int (nI sp), .int (nI ou)])), aI cy (ma 7) 144 (mS wy), aI cy (ma 3) 248 (mS τ)]) (va_runV (As := [.ref (ma 3)]) (rest := []) ⟨hx, hb, hml, hown, hts⟩ (c_X8_measure l g cy (ma 0) (ma 1) (ma 2) (ma 3) (ma 4) (ma 5) (ma 6) (ma 7) (ma 8) (ma 3) s.heap.size rf ln n sp ou wy τ bd hwf) ⟨(cB 1 hts wd13_20 wd1_5 wd13_17 rfl rfl (by decide +kernel) ⟨Nat.le_of_ble_eq_true rfl, Nat.le_of_ble_eq_true rfl⟩), hts _ wd13_18, hts _ wd13_19⟩ (pv hK hP hD hS hA hX [0, 7, 3] rfl rfl 6 0 rfl rfl) rfl rfl hl.1 rfl (lv_room (Nat.le_of_ble_eq_true rfl)) dX8_canBeNow_5 ⟨Nat.zero_le _, Nat.zero_le _⟩) hP hD hS hA [0, 7, 3] rfl rfl (fun _ => (rfl : ([ma 0, ma 7, ma 3] : List Nat) = [ma 0, ma 7, ma 3])) ?_
  rintro _u9 H locs - hP hD hS
  have hP : va_P g vwCl [(ma 0, .inr (6, [.int (nI rf), .ref (ma 1), .int (nI ln), .ref (ma 2), .ref (ma 3), .ref (ma 4), .int (nI n), .ref (ma 5), .ref (ma 6), .ref (ma 7), .ref (ma 8), .int (nI sp), .int (nI ou)])), aI cy (ma 1) 120 (mS tx), aI cy (ma 2) 248 (mS σ), aI cy (ma 3) 248 (mS τ), aI cy (ma 4) 3472 (mS dy), aI cy (ma 5) 496 (mS kp), aZ cy (ma 6) 2 (fun j => bI (fl j)), aI cy (ma 7) 144 (mS (D τ)), aI cy (ma 8) 8 (mS hp)] H := hP
  have hD : va_D A [(ma 0, .inr (6, [.int (nI rf), .ref (ma 1), .int (nI ln), .ref (ma 2), .ref (ma 3), .ref (ma 4), .int (nI n), .ref (ma 5), .ref (ma 6), .ref (ma 7), .ref (ma 8), .int (nI sp), .int (nI ou)])), aI cy (ma 1) 120 (mS tx), aI cy (ma 2) 248 (mS σ), aI cy (ma 3) 248 (mS τ), aI cy (ma 4) 3472 (mS dy), aI cy (ma 5) 496 (mS kp), aZ cy (ma 6) 2 (fun j => bI (fl j)), aI cy (ma 7) 144 (mS (D τ)), aI cy (ma 8) 8 (mS hp)] := hD
  show W _ _ _ _ _ _ _ _ _ _ _ _ _ _ _ (F0 mX 8 ls [])
  refine lv_aload_n hx hb dX8_canBeNow_8 rfl (lv_at hl 0 rfl) ?_
  refine lv_aload_n hx hb dX8_canBeNow_9 rfl (lv_at hl 0 rfl) ?_
  refine va_get (D := g) (ci := 6) (v := .ref (ma 3)) (C := RX8) (T := TX8) (N := 13) hx hb hts bgX8 hown hK hP 0 rfl rfl 4 (by decide) (hts _ wd5_22) (fun _ h9 => h9) rfl dX8_canBeNow_10 ?_
  refine lv_iload_n hx hb dX8_canBeNow_13 rfl (lv_at hl 1 rfl) ?_
  refine lv_iload_n hx hb dX8_canBeNow_14 rfl (lv_at hl 2 rfl) ?_
  refine rd_call (va_runV (As := [.ref (ma 3), .int (nI d), .int (nI c)]) (rest := []) ⟨hx, hb, hml, hown, hts⟩ (c_X8_canBeAt l g cy (ma 0) (ma 1) (ma 2) (ma 3) (ma 4) (ma 5) (ma 6) (ma 7) (ma 8) (ma 3) H.size rf ln n sp ou (D τ) τ bd d c hwf (fun _ _ => rfl) (by omega) (by omega)) ⟨(cB 3 hts wd36_0 wd1_5 wd35_21 rfl rfl (by decide +kernel) ⟨Nat.le_of_ble_eq_true rfl, Nat.le_of_ble_eq_true rfl⟩), hts _ wd35_22, hts _ wd35_23⟩ (pv hK hP hD hS hA hX [0, 7, 3] rfl rfl 6 0 rfl rfl) rfl rfl hl.1 rfl (lv_room (Nat.le_of_ble_eq_true rfl)) dX8_canBeNow_15 ⟨Nat.zero_le _, Nat.zero_le _⟩) ?_
  show W _ _ _ _ _ _ _ _ _ _ _ _ _ _ _ (F0 mX 18 ls [.int (bI (cbe τ d c))])
  exact wr_z (b := (cbe τ d c)) () rfl rfl trivial hP hS hx hb hr dX8_canBeNow_18 hlk
set_option maxHeartbeats 4000000 in
set_option maxRecDepth 100000 in
theorem c_X8_fraudsNow (l : Launch) (g : va_G) (cy : Nat → ClassId) (sz : Nat) (ma : Nat → Nat) (τ : Nat → Nat) (dy : Nat → Nat) (kp : Nat → Nat) (wy : Nat → Nat) (hp : Nat → Nat) (sp : Nat) (ou : Nat) (rf : Nat) (σ : Nat → Nat) (n : Nat) (fl : Nat → Bool) (tx : Nat → Nat) (ln : Nat) (bd : Nat) (hwf : WF bd τ) : Met l yX8_fraudsNow (Cond.code yX8_fraudsNow cX8_fraudsNow 1 (some .int) :: wsL_law) ({ frames := 5, cells := 0, slots := 0, locals := 115 } : Room) (va_Pc [.ref (ma 0)] (pr g cy [(ma 0, .inr (6, [.int (nI rf), .ref (ma 1), .int (nI ln), .ref (ma 2), .ref (ma 3), .ref (ma 4), .int (nI n), .ref (ma 5), .ref (ma 6), .ref (ma 7), .ref (ma 8), .int (nI sp), .int (nI ou)])), aI cy (ma 1) 120 (mS tx), aI cy (ma 2) 248 (mS σ), aI cy (ma 3) 248 (mS τ), aI cy (ma 4) 3472 (mS dy), aI cy (ma 5) 496 (mS kp), aZ cy (ma 6) 2 (fun j => bI (fl j)), aI cy (ma 7) 144 (mS wy), aI cy (ma 8) 8 (mS hp)] sz)) (wr_Q (fun _ : Unit => (some (.int (nI (ct (frd τ) (τ 1)))))) (fun _ : Unit => True) (fun _ : Unit => [(ma 0, .inr (6, [.int (nI rf), .ref (ma 1), .int (nI ln), .ref (ma 2), .ref (ma 3), .ref (ma 4), .int (nI n), .ref (ma 5), .ref (ma 6), .ref (ma 7), .ref (ma 8), .int (nI sp), .int (nI ou)])), aI cy (ma 1) 120 (mS tx), aI cy (ma 2) 248 (mS σ), aI cy (ma 3) 248 (mS τ), aI cy (ma 4) 3472 (mS dy), aI cy (ma 5) 496 (mS kp), aZ cy (ma 6) 2 (fun j => bI (fl j)), aI cy (ma 7) 144 (mS (D τ)), aI cy (ma 8) 8 (mS hp)]) g (va_A [(ma 0, .inr (6, [.int (nI rf), .ref (ma 1), .int (nI ln), .ref (ma 2), .ref (ma 3), .ref (ma 4), .int (nI n), .ref (ma 5), .ref (ma 6), .ref (ma 7), .ref (ma 8), .int (nI sp), .int (nI ou)])), aI cy (ma 1) 120 (mS tx), aI cy (ma 2) 248 (mS σ), aI cy (ma 3) 248 (mS τ), aI cy (ma 4) 3472 (mS dy), aI cy (ma 5) 496 (mS kp), aZ cy (ma 6) 2 (fun j => bI (fl j)), aI cy (ma 7) 144 (mS wy), aI cy (ma 8) 8 (mS hp)] sz)) 0 0 (va_A [(ma 0, .inr (6, [.int (nI rf), .ref (ma 1), .int (nI ln), .ref (ma 2), .ref (ma 3), .ref (ma 4), .int (nI n), .ref (ma 5), .ref (ma 6), .ref (ma 7), .ref (ma 8), .int (nI sp), .int (nI ou)])), aI cy (ma 1) 120 (mS tx), aI cy (ma 2) 248 (mS σ), aI cy (ma 3) 248 (mS τ), aI cy (ma 4) 3472 (mS dy), aI cy (ma 5) 496 (mS kp), aZ cy (ma 6) 2 (fun j => bI (fl j)), aI cy (ma 7) 144 (mS wy), aI cy (ma 8) 8 (mS hp)] sz) := by
  refine mt_of (cc := cX8_fraudsNow) (maxL := 1) (ret := (some .int)) (by decide +kernel) (Nat.le_of_ble_eq_true rfl) ?_
  intro pX eX s mX below meth cX ls A hx hb hr hml hown hts hlk hin hsz hAe hA hP hD hK hX hl
  subst hsz
  rw [← hAe]
  clear hAe
  have hl : lv_has ls 1 [(0, .ref (ma 0))] := hl
  have hS : va_S A s.heap s.heap [] := va_S.rf
  refine lv_aload_n hx hb dX8_fraudsNow_0 rfl (lv_at hl 0 rfl) ?_
  refine lv_aload_n hx hb dX8_fraudsNow_1 rfl (lv_at hl 0 rfl) ?_
  refine va_get (D := g) (ci := 6) (v := .ref (ma 3)) (C := RX8) (T := TX8) (N := 13) hx hb hts bgX8 hown hK hP 0 rfl rfl 4 (by decide) (hts _ wd5_22) (fun _ h9 => h9) rfl dX8_fraudsNow_2 ?_
  refine wr_call (wc := [(ma 0, .inr (6, [.int (nI rf), .ref (ma 1), .int (nI ln), .ref (ma 2), .ref (ma 3), .ref (ma 4), .int (nI n), .ref (ma 5), .ref (ma 6), .ref (ma 7), .ref (ma 8), .int (nI sp), .int (nI ou)])), aI cy (ma 7) 144 (mS wy), aI cy (ma 3) 248 (mS τ)]) (va_runV (As := [.ref (ma 3)]) (rest := []) ⟨hx, hb, hml, hown, hts⟩ (c_X8_measure l g cy (ma 0) (ma 1) (ma 2) (ma 3) (ma 4) (ma 5) (ma 6) (ma 7) (ma 8) (ma 3) s.heap.size rf ln n sp ou wy τ bd hwf) ⟨(cB 1 hts wd13_20 wd1_5 wd13_17 rfl rfl (by decide +kernel) ⟨Nat.le_of_ble_eq_true rfl, Nat.le_of_ble_eq_true rfl⟩), hts _ wd13_18, hts _ wd13_19⟩ (pv hK hP hD hS hA hX [0, 7, 3] rfl rfl 6 0 rfl rfl) rfl rfl hl.1 rfl (lv_room (Nat.le_of_ble_eq_true rfl)) dX8_fraudsNow_5 ⟨Nat.zero_le _, Nat.zero_le _⟩) hP hD hS hA [0, 7, 3] rfl rfl (fun _ => (rfl : ([ma 0, ma 7, ma 3] : List Nat) = [ma 0, ma 7, ma 3])) ?_
  rintro _u9 H locs - hP hD hS
  have hP : va_P g vwCl [(ma 0, .inr (6, [.int (nI rf), .ref (ma 1), .int (nI ln), .ref (ma 2), .ref (ma 3), .ref (ma 4), .int (nI n), .ref (ma 5), .ref (ma 6), .ref (ma 7), .ref (ma 8), .int (nI sp), .int (nI ou)])), aI cy (ma 1) 120 (mS tx), aI cy (ma 2) 248 (mS σ), aI cy (ma 3) 248 (mS τ), aI cy (ma 4) 3472 (mS dy), aI cy (ma 5) 496 (mS kp), aZ cy (ma 6) 2 (fun j => bI (fl j)), aI cy (ma 7) 144 (mS (D τ)), aI cy (ma 8) 8 (mS hp)] H := hP
  have hD : va_D A [(ma 0, .inr (6, [.int (nI rf), .ref (ma 1), .int (nI ln), .ref (ma 2), .ref (ma 3), .ref (ma 4), .int (nI n), .ref (ma 5), .ref (ma 6), .ref (ma 7), .ref (ma 8), .int (nI sp), .int (nI ou)])), aI cy (ma 1) 120 (mS tx), aI cy (ma 2) 248 (mS σ), aI cy (ma 3) 248 (mS τ), aI cy (ma 4) 3472 (mS dy), aI cy (ma 5) 496 (mS kp), aZ cy (ma 6) 2 (fun j => bI (fl j)), aI cy (ma 7) 144 (mS (D τ)), aI cy (ma 8) 8 (mS hp)] := hD
  show W _ _ _ _ _ _ _ _ _ _ _ _ _ _ _ (F0 mX 8 ls [])
  refine lv_aload_n hx hb dX8_fraudsNow_8 rfl (lv_at hl 0 rfl) ?_
  refine lv_aload_n hx hb dX8_fraudsNow_9 rfl (lv_at hl 0 rfl) ?_
  refine va_get (D := g) (ci := 6) (v := .ref (ma 3)) (C := RX8) (T := TX8) (N := 13) hx hb hts bgX8 hown hK hP 0 rfl rfl 4 (by decide) (hts _ wd5_22) (fun _ h9 => h9) rfl dX8_fraudsNow_10 ?_
  refine rd_call (va_runV (As := [.ref (ma 3)]) (rest := []) ⟨hx, hb, hml, hown, hts⟩ (c_X8_frauds l g cy (ma 0) (ma 1) (ma 2) (ma 3) (ma 4) (ma 5) (ma 6) (ma 7) (ma 8) (ma 3) H.size rf ln n sp ou (D τ) τ bd hwf (fun _ _ => rfl)) ⟨(cB 1 hts wd24_17 wd1_5 wd24_14 rfl rfl (by decide +kernel) ⟨Nat.le_of_ble_eq_true rfl, Nat.le_of_ble_eq_true rfl⟩), hts _ wd24_15, hts _ wd24_16⟩ (pv hK hP hD hS hA hX [0, 7, 3] rfl rfl 6 0 rfl rfl) rfl rfl hl.1 rfl (lv_room (Nat.le_of_ble_eq_true rfl)) dX8_fraudsNow_13 ⟨Nat.zero_le _, Nat.zero_le _⟩) ?_
  show W _ _ _ _ _ _ _ _ _ _ _ _ _ _ _ (F0 mX 16 ls [.int (nI (ct (frd τ) (τ 1)))])
  exact wr_i () rfl trivial hP hS hx hb hr dX8_fraudsNow_16 hlk
