set_option maxHeartbeats 4000000 in
set_option maxRecDepth 100000 in
theorem c_X8_lose (l : Launch) (g : va_G) (cy : Nat → ClassId) (ma : Nat → Nat) (sz : Nat) (bd : Nat) (q : Mc) (σ : Nat → Nat) (Hh : Nat → Nat → Nat) (n : Nat) (K : Nat → Nat → Nat) (fl : Nat → Bool) (tx : Nat → Nat) (ln : Nat) (vm : Int32) (vp : Int32) (vc : Int32) (vr : Int32) (hI : mI bd q σ Hh n K fl tx ln) : Met l yX8_lose (Cond.code yX8_lose cX8_lose 6 (some .int) :: wsL_law) ({ frames := 2, cells := 0, slots := 0, locals := 45 } : Room) (va_Pc [.ref (ma 0), .int vm, .int vp, .int vc, .int vr] (pr g cy (mQ cy ma q σ n fl tx ln) sz)) (wr_Q (fun _ : Mc => (some (.int (nI (if fLose σ vm vp vc vr = 0 then σ 0 else 0))))) (fun q9 : Mc => q9.2.2.2.2.2.2.2 = rkm 1 2 3 (fLose σ vm vp vc vr) ∧ mI bd q9 (loseR σ vm vp vc vr) (if fLose σ vm vp vc vr = 0 then hiH Hh n σ else Hh) (if fLose σ vm vp vc vr = 0 then hiN n else n) K fl tx ln) (fun q9 : Mc => mQ cy ma q9 (loseR σ vm vp vc vr) (if fLose σ vm vp vc vr = 0 then hiN n else n) fl tx ln) g (va_A (mQ cy ma q σ n fl tx ln) sz)) 0 0 (va_A (mQ cy ma q σ n fl tx ln) sz) := by
  obtain ⟨tr, dy, kp, wy, hp, sp, ou, rf⟩ := q
  obtain ⟨hwf, hn14, hdy, hkp, htx, hln⟩ := hI
  have hdy : ∀ k, k < n → ∀ j, j < 248 → dy (248 * k + j) = Hh k j := hdy
  have hkp : ∀ k, k < 2 → fl k = true → ∀ j, j < 248 → kp (248 * k + j) = K k j := hkp
  refine mt_of (cc := cX8_lose) (maxL := 6) (ret := (some .int)) (by decide +kernel) (Nat.le_of_ble_eq_true rfl) ?_
  intro pX eX s mX below meth cX ls A hx hb hr hml hown hts hlk hin hsz hAe hA hP hD hK hX hl
  subst hsz
  rw [← hAe]
  clear hAe
  have hP : va_P g vwCl [(ma 0, .inr (6, [.int (nI rf), .ref (ma 1), .int (nI ln), .ref (ma 2), .ref (ma 3), .ref (ma 4), .int (nI n), .ref (ma 5), .ref (ma 6), .ref (ma 7), .ref (ma 8), .int (nI sp), .int (nI ou)])), aI cy (ma 1) 120 (mS tx), aI cy (ma 2) 248 (mS σ), aI cy (ma 3) 248 (mS tr), aI cy (ma 4) 3472 (mS dy), aI cy (ma 5) 496 (mS kp), aZ cy (ma 6) 2 (fun j => bI (fl j)), aI cy (ma 7) 144 (mS wy), aI cy (ma 8) 8 (mS hp)] s.heap := hP
  have hD : va_D A [(ma 0, .inr (6, [.int (nI rf), .ref (ma 1), .int (nI ln), .ref (ma 2), .ref (ma 3), .ref (ma 4), .int (nI n), .ref (ma 5), .ref (ma 6), .ref (ma 7), .ref (ma 8), .int (nI sp), .int (nI ou)])), aI cy (ma 1) 120 (mS tx), aI cy (ma 2) 248 (mS σ), aI cy (ma 3) 248 (mS tr), aI cy (ma 4) 3472 (mS dy), aI cy (ma 5) 496 (mS kp), aZ cy (ma 6) 2 (fun j => bI (fl j)), aI cy (ma 7) 144 (mS wy), aI cy (ma 8) 8 (mS hp)] := hD
  have hl : lv_has ls 6 [(0, .ref (ma 0)), (1, .int vm), (2, .int vp), (3, .int vc), (4, .int vr)] := hl
  have hS : va_S A s.heap s.heap [] := va_S.rf
  have hn0 := hwf.n0
  have hn1 := hwf.n1
  have hh2 := hwf.h2
  have hfr : fLose σ vm vp vc vr = 0 ∨ 0 < rkm 1 2 3 (fLose σ vm vp vc vr) := by unfold fLose rkm; (repeat' split) <;> omega
  have hfl9 : rkm 1 2 3 (fLose σ vm vp vc vr) < 10 := by unfold rkm; (repeat' split) <;> omega
  refine jn_i (pcj := 42) (ls := ls) (st := []) (fun v9 => v9 = (bI (inR vm (nI 1) (nI 255) && (inR vp (nI 1) (nI 3) && inR vr (nI 1) (nI 500))))) ?_ (fun jn42 => ?_)
  · intro v9 hv9
    subst hv9
    refine lv_istore (lv' := [(5, .int (bI (inR vm (nI 1) (nI 255) && (inR vp (nI 1) (nI 3) && inR vr (nI 1) (nI 500))))), (0, .ref (ma 0)), (1, .int vm), (2, .int vp), (3, .int vc), (4, .int vr)]) hx hb dX8_lose_42 hl (by decide) rfl (fun ls hl => ?_)
    refine lv_aload_n hx hb dX8_lose_44 rfl (lv_at hl 1 rfl) ?_
    refine jn_i (pcj := 81) (ls := ls) (st := [.ref (ma 0)]) (fun v9 => v9 = (nI (rkm 1 2 3 (fLose σ vm vp vc vr)))) ?_ (fun jn81 => ?_)
    · intro v9 hv9
      subst hv9
      refine wr_call (wc := [(ma 0, .inr (6, [.int (nI rf), .ref (ma 1), .int (nI ln), .ref (ma 2), .ref (ma 3), .ref (ma 4), .int (nI n), .ref (ma 5), .ref (ma 6), .ref (ma 7), .ref (ma 8), .int (nI sp), .int (nI ou)]))]) (va_runV (As := [.int (nI (rkm 1 2 3 (fLose σ vm vp vc vr)))]) (rest := []) ⟨hx, hb, hml, hown, hts⟩ (c_X8_refused l g cy (ma 0) (ma 1) (ma 2) (ma 3) (ma 4) (ma 5) (ma 6) (ma 7) (ma 8) s.heap.size rf ln n sp ou (rkm 1 2 3 (fLose σ vm vp vc vr)) (by omega)) ⟨(cB 1 hts wd7_21 wd1_5 wd7_18 rfl rfl (by decide +kernel) ⟨Nat.le_of_ble_eq_true rfl, Nat.le_of_ble_eq_true rfl⟩), hts _ wd7_19, hts _ wd7_20⟩ (pv hK hP hD hS hA hX [0] rfl rfl 6 0 rfl rfl) rfl rfl hl.1 rfl (lv_room (Nat.le_of_ble_eq_true rfl)) dX8_lose_81 ⟨Nat.zero_le _, Nat.zero_le _⟩) hP hD hS hA [0] rfl rfl (fun _ => (rfl : ([ma 0] : List Nat) = [ma 0])) ?_
      rintro _u9 H locs - hP hD hS
      have hP : va_P g vwCl [(ma 0, .inr (6, [.int (nI (rkm 1 2 3 (fLose σ vm vp vc vr))), .ref (ma 1), .int (nI ln), .ref (ma 2), .ref (ma 3), .ref (ma 4), .int (nI n), .ref (ma 5), .ref (ma 6), .ref (ma 7), .ref (ma 8), .int (nI sp), .int (nI ou)])), aI cy (ma 1) 120 (mS tx), aI cy (ma 2) 248 (mS σ), aI cy (ma 3) 248 (mS tr), aI cy (ma 4) 3472 (mS dy), aI cy (ma 5) 496 (mS kp), aZ cy (ma 6) 2 (fun j => bI (fl j)), aI cy (ma 7) 144 (mS wy), aI cy (ma 8) 8 (mS hp)] H := hP
      have hD : va_D A [(ma 0, .inr (6, [.int (nI (rkm 1 2 3 (fLose σ vm vp vc vr))), .ref (ma 1), .int (nI ln), .ref (ma 2), .ref (ma 3), .ref (ma 4), .int (nI n), .ref (ma 5), .ref (ma 6), .ref (ma 7), .ref (ma 8), .int (nI sp), .int (nI ou)])), aI cy (ma 1) 120 (mS tx), aI cy (ma 2) 248 (mS σ), aI cy (ma 3) 248 (mS tr), aI cy (ma 4) 3472 (mS dy), aI cy (ma 5) 496 (mS kp), aZ cy (ma 6) 2 (fun j => bI (fl j)), aI cy (ma 7) 144 (mS wy), aI cy (ma 8) 8 (mS hp)] := hD
      show W _ _ _ _ _ _ _ _ _ _ _ _ _ _ _ (F0 mX 84 ls [.int (bI (decide (0 < (rkm 1 2 3 (fLose σ vm vp vc vr)))))])
      refine lv_if_eq (tgt := 89) hx hb dX8_lose_84 (by decide) (fun c_84 => ?_) (fun c_84 => ?_)
      · have c_84 := (bI_eq0.mp c_84)
        have c_84 : fLose σ vm vp vc vr = 0 := hfr.resolve_right (of_decide_eq_false c_84)
        obtain ⟨m9, p9, c9, r9, ⟨rfl, rfl, rfl, rfl⟩, hm1, hm2, hp1, hp2, hc9, hr1, hr2, hn6⟩ := fLose_0 c_84
        refine lv_aload_n hx hb dX8_lose_89 rfl (lv_at hl 1 rfl) ?_
        refine wr_call (wc := [(ma 0, .inr (6, [.int (nI (rkm 1 2 3 (fLose σ (nI m9) (nI p9) (nI c9) (nI r9)))), .ref (ma 1), .int (nI ln), .ref (ma 2), .ref (ma 3), .ref (ma 4), .int (nI n), .ref (ma 5), .ref (ma 6), .ref (ma 7), .ref (ma 8), .int (nI sp), .int (nI ou)])), aI cy (ma 2) 248 (mS σ), aI cy (ma 4) 3472 (mS dy)]) (va_runV (As := []) (rest := []) ⟨hx, hb, hml, hown, hts⟩ (c_X8_remember l g cy (ma 0) (ma 1) (ma 2) (ma 3) (ma 4) (ma 5) (ma 6) (ma 7) (ma 8) H.size (rkm 1 2 3 (fLose σ (nI m9) (nI p9) (nI c9) (nI r9))) ln n sp ou σ dy (by omega)) ⟨(cB 0 hts wd30_21 wd1_5 wd30_18 rfl rfl (by decide +kernel) ⟨Nat.le_of_ble_eq_true rfl, Nat.le_of_ble_eq_true rfl⟩), hts _ wd30_19, hts _ wd30_20⟩ (pv hK hP hD hS hA hX [0, 2, 4] rfl rfl 6 0 rfl rfl) rfl rfl hl.1 rfl (lv_room (Nat.le_of_ble_eq_true rfl)) dX8_lose_90 ⟨Nat.zero_le _, Nat.zero_le _⟩) hP hD hS hA [0, 2, 4] rfl rfl (fun _ => (rfl : ([ma 0, ma 2, ma 4] : List Nat) = [ma 0, ma 2, ma 4])) ?_
        rintro _u9 H locs - hP hD hS
        have hP : va_P g vwCl [(ma 0, .inr (6, [.int (nI (rkm 1 2 3 (fLose σ (nI m9) (nI p9) (nI c9) (nI r9)))), .ref (ma 1), .int (nI ln), .ref (ma 2), .ref (ma 3), .ref (ma 4), .int (nI (hiN n)), .ref (ma 5), .ref (ma 6), .ref (ma 7), .ref (ma 8), .int (nI sp), .int (nI ou)])), aI cy (ma 1) 120 (mS tx), aI cy (ma 2) 248 (mS σ), aI cy (ma 3) 248 (mS tr), aI cy (ma 4) 3472 (mS (remD σ dy n)), aI cy (ma 5) 496 (mS kp), aZ cy (ma 6) 2 (fun j => bI (fl j)), aI cy (ma 7) 144 (mS wy), aI cy (ma 8) 8 (mS hp)] H := hP
        have hD : va_D A [(ma 0, .inr (6, [.int (nI (rkm 1 2 3 (fLose σ (nI m9) (nI p9) (nI c9) (nI r9)))), .ref (ma 1), .int (nI ln), .ref (ma 2), .ref (ma 3), .ref (ma 4), .int (nI (hiN n)), .ref (ma 5), .ref (ma 6), .ref (ma 7), .ref (ma 8), .int (nI sp), .int (nI ou)])), aI cy (ma 1) 120 (mS tx), aI cy (ma 2) 248 (mS σ), aI cy (ma 3) 248 (mS tr), aI cy (ma 4) 3472 (mS (remD σ dy n)), aI cy (ma 5) 496 (mS kp), aZ cy (ma 6) 2 (fun j => bI (fl j)), aI cy (ma 7) 144 (mS wy), aI cy (ma 8) 8 (mS hp)] := hD
        show W _ _ _ _ _ _ _ _ _ _ _ _ _ _ _ (F0 mX 93 ls [])
        refine lv_aload_n hx hb dX8_lose_93 rfl (lv_at hl 1 rfl) ?_
        refine va_get (D := g) (ci := 6) (v := .ref (ma 2)) (C := RX8) (T := TX8) (N := 13) hx hb hts bgX8 hown hK hP 0 rfl rfl 3 (by decide) (hts _ wd5_21) (fun _ h9 => h9) rfl dX8_lose_94 ?_
        refine lv_iload_n hx hb dX8_lose_97 rfl (lv_at hl 2 rfl) ?_
        refine lv_iload_n hx hb dX8_lose_98 rfl (lv_at hl 3 rfl) ?_
        refine lv_iload_n hx hb dX8_lose_99 rfl (lv_at hl 4 rfl) ?_
        refine lv_iload hx hb dX8_lose_100 (lv_at hl 5 rfl) ?_
        refine wr_call (wc := [aI cy (ma 2) 248 (mS σ)]) (va_runS (As := [.ref (ma 2), .int (nI m9), .int (nI p9), .int (nI c9), .int (nI r9)]) (rest := []) ⟨hx, hb, hml, hown, hts⟩ (c_X8_loseOn l g cy (ma 2) H.size σ m9 p9 c9 r9 (by omega)) ⟨(cB 5 hts wd11_19 wd1_5 wd11_17 rfl rfl (by decide +kernel) ⟨Nat.le_of_ble_eq_true rfl, Nat.le_of_ble_eq_true rfl⟩), hts _ wd11_18⟩ (ps hK hP hD hS hA hX [2] rfl rfl) rfl rfl hl.1 rfl (lv_room (Nat.le_of_ble_eq_true rfl)) dX8_lose_102 ⟨Nat.zero_le _, Nat.zero_le _⟩) hP hD hS hA [2] rfl rfl (fun _ => (rfl : ([ma 2] : List Nat) = [ma 2])) ?_
        rintro _u9 H locs - hP hD hS
        have hP : va_P g vwCl [(ma 0, .inr (6, [.int (nI (rkm 1 2 3 (fLose σ (nI m9) (nI p9) (nI c9) (nI r9)))), .ref (ma 1), .int (nI ln), .ref (ma 2), .ref (ma 3), .ref (ma 4), .int (nI (hiN n)), .ref (ma 5), .ref (ma 6), .ref (ma 7), .ref (ma 8), .int (nI sp), .int (nI ou)])), aI cy (ma 1) 120 (mS tx), aI cy (ma 2) 248 (mS (loseS σ m9 p9 c9 r9)), aI cy (ma 3) 248 (mS tr), aI cy (ma 4) 3472 (mS (remD σ dy n)), aI cy (ma 5) 496 (mS kp), aZ cy (ma 6) 2 (fun j => bI (fl j)), aI cy (ma 7) 144 (mS wy), aI cy (ma 8) 8 (mS hp)] H := hP
        have hD : va_D A [(ma 0, .inr (6, [.int (nI (rkm 1 2 3 (fLose σ (nI m9) (nI p9) (nI c9) (nI r9)))), .ref (ma 1), .int (nI ln), .ref (ma 2), .ref (ma 3), .ref (ma 4), .int (nI (hiN n)), .ref (ma 5), .ref (ma 6), .ref (ma 7), .ref (ma 8), .int (nI sp), .int (nI ou)])), aI cy (ma 1) 120 (mS tx), aI cy (ma 2) 248 (mS (loseS σ m9 p9 c9 r9)), aI cy (ma 3) 248 (mS tr), aI cy (ma 4) 3472 (mS (remD σ dy n)), aI cy (ma 5) 496 (mS kp), aZ cy (ma 6) 2 (fun j => bI (fl j)), aI cy (ma 7) 144 (mS wy), aI cy (ma 8) 8 (mS hp)] := hD
        show W _ _ _ _ _ _ _ _ _ _ _ _ _ _ _ (F0 mX 105 ls [.int (nI (σ 0))])
        exact wr_i (tr, remD σ dy n, kp, wy, hp, sp, ou, rkm 1 2 3 (fLose σ (nI m9) (nI p9) (nI c9) (nI r9))) (by rw [if_pos c_84]) ⟨rfl, (by simp only [if_pos c_84]; exact ⟨(WF_loseR hwf), (rem_n hn14), (rem_dy hn14 hdy), hkp, htx, hln⟩)⟩ (by simp only [if_pos c_84]; rw [loseR_0 hm2 hp2 hc9 hr2 c_84]; exact hP) hS hx hb hr dX8_lose_105 hlk
      · have c_84 := (bI_ne0.mp c_84)
        have c_84 : ¬ fLose σ vm vp vc vr = 0 := fun e => by rw [e] at c_84; exact absurd c_84 (by decide)
        refine lv_iconst (v := (nI 0)) hx hb dX8_lose_87 (by decide) ?_
        exact wr_i (tr, dy, kp, wy, hp, sp, ou, rkm 1 2 3 (fLose σ vm vp vc vr)) (by rw [if_neg c_84]) ⟨rfl, (by rw [show loseR σ vm vp vc vr = σ from if_neg c_84]; simp only [if_neg c_84]; exact ⟨hwf, hn14, hdy, hkp, htx, hln⟩)⟩ (by rw [show loseR σ vm vp vc vr = σ from if_neg c_84]; simp only [if_neg c_84]; exact hP) hS hx hb hr dX8_lose_88 hlk
    · skip
      refine lv_iload_n hx hb dX8_lose_45 rfl (lv_at hl 4 rfl) ?_
      refine rd_call (va_runS (As := [.int vc]) (rest := [.ref (ma 0)]) ⟨hx, hb, hml, hown, hts⟩ (c_X8_isCorner l vc ) ⟨(cB 1 hts wd28_15 wd1_5 wd28_13 rfl rfl (by decide +kernel) ⟨Nat.le_of_ble_eq_true rfl, Nat.le_of_ble_eq_true rfl⟩), hts _ wd28_14⟩ p0 rfl rfl hl.1 rfl (lv_room (Nat.le_of_ble_eq_true rfl)) dX8_lose_46 ⟨Nat.zero_le _, Nat.zero_le _⟩) ?_
      show W _ _ _ _ _ _ _ _ _ _ _ _ _ _ _ (F0 mX 49 ls [.int (bI (inR vc (nI 0) (nI 11))), .ref (ma 0)])
      refine lv_if_ne (tgt := 56) hx hb dX8_lose_49 (by decide) (fun c_49 => ?_) (fun c_49 => ?_)
      · have c_49 := (bI_ne0.mp c_49)
        refine lv_iload hx hb dX8_lose_56 (lv_at hl 0 rfl) ?_
        refine lv_if_ne (tgt := 65) hx hb dX8_lose_58 (by decide) (fun c_58 => ?_) (fun c_58 => ?_)
        · have c_58 := (bI_ne0.mp c_58)
          refine lv_aload_n hx hb dX8_lose_65 rfl (lv_at hl 1 rfl) ?_
          refine va_get (D := g) (ci := 6) (v := .ref (ma 2)) (C := RX8) (T := TX8) (N := 13) hx hb hts bgX8 hown hK hP 0 rfl rfl 3 (by decide) (hts _ wd5_21) (fun _ h9 => h9) rfl dX8_lose_66 ?_
          refine lv_iconst (v := (nI 0)) hx hb dX8_lose_69 (by decide) ?_
          refine va_iald hx hb hK hP 2 0 rfl rfl (vp_in_nI (n := 0) (by omega) (by omega)) dX8_lose_70 ?_
          refine ti (show (mS σ) (nI 0).toNatClampNeg = nI (σ 0) from by rw [nI_clamp (by omega)]; rfl) ?_
          refine lv_bipush (v := (nI 6)) hx hb dX8_lose_71 (by decide) ?_
          refine lv_icmp_ge (tgt := 80) hx hb dX8_lose_73 (by decide) (fun c_73 => ?_) (fun c_73 => ?_)
          · have c_73 := (nc_le (by omega) (by omega) c_73)
            refine lv_iconst (v := (nI 3)) hx hb dX8_lose_80 (by decide) ?_
            exact jn81 _ (congrArg nI (by unfold fLose rkm; simp [c_49, c_58, c_73]))
          · have c_73 := (nc_nle (by omega) (by omega) c_73)
            refine lv_iconst (v := (nI 0)) hx hb dX8_lose_76 (by decide) ?_
            refine lv_goto (tgt := 81) hx hb dX8_lose_77 (by decide) ?_
            exact jn81 _ (congrArg nI (by unfold fLose rkm; simp [c_49, c_58, Nat.not_le.mpr c_73]))
        · have c_58 := (bI_eq0.mp c_58)
          refine lv_iconst (v := (nI 2)) hx hb dX8_lose_61 (by decide) ?_
          refine lv_goto (tgt := 81) hx hb dX8_lose_62 (by decide) ?_
          exact jn81 _ (congrArg nI (by unfold fLose rkm; simp [c_49, c_58]))
      · have c_49 := (bI_eq0.mp c_49)
        refine lv_iconst (v := (nI 1)) hx hb dX8_lose_52 (by decide) ?_
        refine lv_goto (tgt := 81) hx hb dX8_lose_53 (by decide) ?_
        exact jn81 _ (congrArg nI (by unfold fLose rkm; simp [c_49]))
  · skip
    refine lv_iload_n hx hb dX8_lose_0 rfl (lv_at hl 1 rfl) ?_
    refine lv_i2l (v := vm.toInt64) hx hb dX8_lose_1 rfl ?_
    refine lv_lconst (v := 1) hx hb dX8_lose_2 rfl ?_
    refine lv_ldc2 hx hb hown (hts _ wd7_13) dX8_lose_3 ?_
    refine rd_call (va_runS (As := [.long vm.toInt64, .long (1 : Int64), .long (255 : Int64)]) (rest := []) ⟨hx, hb, hml, hown, hts⟩ (c_X8_in l vm.toInt64 (1 : Int64) (255 : Int64) ) ⟨(cB 3 hts wd7_17 wd1_5 wd7_15 rfl rfl (by decide +kernel) ⟨Nat.le_of_ble_eq_true rfl, Nat.le_of_ble_eq_true rfl⟩), hts _ wd7_16⟩ p0 rfl rfl hl.1 rfl (lv_room (Nat.le_of_ble_eq_true rfl)) dX8_lose_6 ⟨Nat.zero_le _, Nat.zero_le _⟩) ?_
    show W _ _ _ _ _ _ _ _ _ _ _ _ _ _ _ (F0 mX 9 ls [.int (bI (inL vm.toInt64 (1 : Int64) (255 : Int64)))])
    refine ti (show (bI (inL vm.toInt64 (1 : Int64) (255 : Int64))) = (bI (inR vm (nI 1) (nI 255))) from (congrArg bI (inL_c (a := 1) (b := 255) (by decide) (by decide)))) ?_
    refine lv_if_eq (tgt := 41) hx hb dX8_lose_9 (by decide) (fun c_9 => ?_) (fun c_9 => ?_)
    · have c_9 := (bI_eq0.mp c_9)
      refine lv_iconst (v := (nI 0)) hx hb dX8_lose_41 (by decide) ?_
      exact jn42 _ (by simp only [c_9]; rfl)
    · have c_9 := (bI_ne0.mp c_9)
      refine lv_iload_n hx hb dX8_lose_12 rfl (lv_at hl 2 rfl) ?_
      refine lv_i2l (v := vp.toInt64) hx hb dX8_lose_13 rfl ?_
      refine lv_lconst (v := 1) hx hb dX8_lose_14 rfl ?_
      refine lv_ldc2 hx hb hown (hts _ wd30_16) dX8_lose_15 ?_
      refine rd_call (va_runS (As := [.long vp.toInt64, .long (1 : Int64), .long (3 : Int64)]) (rest := []) ⟨hx, hb, hml, hown, hts⟩ (c_X8_in l vp.toInt64 (1 : Int64) (3 : Int64) ) ⟨(cB 3 hts wd7_17 wd1_5 wd7_15 rfl rfl (by decide +kernel) ⟨Nat.le_of_ble_eq_true rfl, Nat.le_of_ble_eq_true rfl⟩), hts _ wd7_16⟩ p0 rfl rfl hl.1 rfl (lv_room (Nat.le_of_ble_eq_true rfl)) dX8_lose_18 ⟨Nat.zero_le _, Nat.zero_le _⟩) ?_
      show W _ _ _ _ _ _ _ _ _ _ _ _ _ _ _ (F0 mX 21 ls [.int (bI (inL vp.toInt64 (1 : Int64) (3 : Int64)))])
      refine ti (show (bI (inL vp.toInt64 (1 : Int64) (3 : Int64))) = (bI (inR vp (nI 1) (nI 3))) from (congrArg bI (inL_c (a := 1) (b := 3) (by decide) (by decide)))) ?_
      refine lv_if_eq (tgt := 41) hx hb dX8_lose_21 (by decide) (fun c_21 => ?_) (fun c_21 => ?_)
      · have c_21 := (bI_eq0.mp c_21)
        refine lv_iconst (v := (nI 0)) hx hb dX8_lose_41 (by decide) ?_
        exact jn42 _ (by simp only [c_9, c_21]; rfl)
      · have c_21 := (bI_ne0.mp c_21)
        refine lv_iload hx hb dX8_lose_24 (lv_at hl 4 rfl) ?_
        refine lv_i2l (v := vr.toInt64) hx hb dX8_lose_26 rfl ?_
        refine lv_lconst (v := 1) hx hb dX8_lose_27 rfl ?_
        refine lv_ldc2 hx hb hown (hts _ wd30_17) dX8_lose_28 ?_
        refine rd_call (va_runS (As := [.long vr.toInt64, .long (1 : Int64), .long (500 : Int64)]) (rest := []) ⟨hx, hb, hml, hown, hts⟩ (c_X8_in l vr.toInt64 (1 : Int64) (500 : Int64) ) ⟨(cB 3 hts wd7_17 wd1_5 wd7_15 rfl rfl (by decide +kernel) ⟨Nat.le_of_ble_eq_true rfl, Nat.le_of_ble_eq_true rfl⟩), hts _ wd7_16⟩ p0 rfl rfl hl.1 rfl (lv_room (Nat.le_of_ble_eq_true rfl)) dX8_lose_31 ⟨Nat.zero_le _, Nat.zero_le _⟩) ?_
        show W _ _ _ _ _ _ _ _ _ _ _ _ _ _ _ (F0 mX 34 ls [.int (bI (inL vr.toInt64 (1 : Int64) (500 : Int64)))])
        refine ti (show (bI (inL vr.toInt64 (1 : Int64) (500 : Int64))) = (bI (inR vr (nI 1) (nI 500))) from (congrArg bI (inL_c (a := 1) (b := 500) (by decide) (by decide)))) ?_
        refine lv_if_eq (tgt := 41) hx hb dX8_lose_34 (by decide) (fun c_34 => ?_) (fun c_34 => ?_)
        · have c_34 := (bI_eq0.mp c_34)
          refine lv_iconst (v := (nI 0)) hx hb dX8_lose_41 (by decide) ?_
          exact jn42 _ (by simp only [c_9, c_21, c_34]; rfl)
        · have c_34 := (bI_ne0.mp c_34)
          refine lv_iconst (v := (nI 1)) hx hb dX8_lose_37 (by decide) ?_
          refine lv_goto (tgt := 42) hx hb dX8_lose_38 (by decide) ?_
          exact jn42 _ (by simp only [c_9, c_21, c_34]; rfl)
set_option maxHeartbeats 4000000 in
set_option maxRecDepth 100000 in
theorem c_X8_sight (l : Launch) (g : va_G) (cy : Nat → ClassId) (ma : Nat → Nat) (sz : Nat) (bd : Nat) (q : Mc) (σ : Nat → Nat) (Hh : Nat → Nat → Nat) (n : Nat) (K : Nat → Nat → Nat) (fl : Nat → Bool) (tx : Nat → Nat) (ln : Nat) (vf : Int32) (vc : Int32) (vm : Int32) (va : Int32) (ph : Bool) (hI : mI bd q σ Hh n K fl tx ln) : Met l yX8_sight (Cond.code yX8_sight cX8_sight 7 (some .int) :: wsL_law) ({ frames := 4, cells := 0, slots := 0, locals := 95 } : Room) (va_Pc [.ref (ma 0), .int vf, .int vc, .int vm, .int va, .int (bI ph)] (pr g cy (mQ cy ma q σ n fl tx ln) sz)) (wr_Q (fun _ : Mc => (some (.int (nI (if fTell σ vf vc vm va = 0 then sightA σ vf vc vm va else 0))))) (fun q9 : Mc => q9.2.2.2.2.2.2.2 = rkm 1 2 3 (fTell σ vf vc vm va) ∧ mI bd q9 (sightR σ vf vc vm va ph) (if fTell σ vf vc vm va = 0 then hiH Hh n σ else Hh) (if fTell σ vf vc vm va = 0 then hiN n else n) K fl tx ln) (fun q9 : Mc => mQ cy ma q9 (sightR σ vf vc vm va ph) (if fTell σ vf vc vm va = 0 then hiN n else n) fl tx ln) g (va_A (mQ cy ma q σ n fl tx ln) sz)) 0 0 (va_A (mQ cy ma q σ n fl tx ln) sz) := by
  obtain ⟨tr, dy, kp, wy, hp, sp, ou, rf⟩ := q
  obtain ⟨hwf, hn14, hdy, hkp, htx, hln⟩ := hI
  have hdy : ∀ k, k < n → ∀ j, j < 248 → dy (248 * k + j) = Hh k j := hdy
  have hkp : ∀ k, k < 2 → fl k = true → ∀ j, j < 248 → kp (248 * k + j) = K k j := hkp
  refine mt_of (cc := cX8_sight) (maxL := 7) (ret := (some .int)) (by decide +kernel) (Nat.le_of_ble_eq_true rfl) ?_
  intro pX eX s mX below meth cX ls A hx hb hr hml hown hts hlk hin hsz hAe hA hP hD hK hX hl
  subst hsz
  rw [← hAe]
  clear hAe
  have hP : va_P g vwCl [(ma 0, .inr (6, [.int (nI rf), .ref (ma 1), .int (nI ln), .ref (ma 2), .ref (ma 3), .ref (ma 4), .int (nI n), .ref (ma 5), .ref (ma 6), .ref (ma 7), .ref (ma 8), .int (nI sp), .int (nI ou)])), aI cy (ma 1) 120 (mS tx), aI cy (ma 2) 248 (mS σ), aI cy (ma 3) 248 (mS tr), aI cy (ma 4) 3472 (mS dy), aI cy (ma 5) 496 (mS kp), aZ cy (ma 6) 2 (fun j => bI (fl j)), aI cy (ma 7) 144 (mS wy), aI cy (ma 8) 8 (mS hp)] s.heap := hP
  have hD : va_D A [(ma 0, .inr (6, [.int (nI rf), .ref (ma 1), .int (nI ln), .ref (ma 2), .ref (ma 3), .ref (ma 4), .int (nI n), .ref (ma 5), .ref (ma 6), .ref (ma 7), .ref (ma 8), .int (nI sp), .int (nI ou)])), aI cy (ma 1) 120 (mS tx), aI cy (ma 2) 248 (mS σ), aI cy (ma 3) 248 (mS tr), aI cy (ma 4) 3472 (mS dy), aI cy (ma 5) 496 (mS kp), aZ cy (ma 6) 2 (fun j => bI (fl j)), aI cy (ma 7) 144 (mS wy), aI cy (ma 8) 8 (mS hp)] := hD
  have hl : lv_has ls 7 [(0, .ref (ma 0)), (1, .int vf), (2, .int vc), (3, .int vm), (4, .int va), (5, .int (bI ph))] := hl
  have hS : va_S A s.heap s.heap [] := va_S.rf
  have hn0 := hwf.n0
  have hn1 := hwf.n1
  have hh2 := hwf.h2
  have hfr : fTell σ vf vc vm va = 0 ∨ 0 < rkm 1 2 3 (fTell σ vf vc vm va) := by unfold fTell rkm; (repeat' split) <;> omega
  have hfl9 : rkm 1 2 3 (fTell σ vf vc vm va) < 10 := by unfold rkm; (repeat' split) <;> omega
  refine jn_i (pcj := 41) (ls := ls) (st := []) (fun v9 => v9 = (bI (inR vm (nI 0) (nI 255) && (inR va (nI 0) (nI 99) && !decide (nI (σ 2) < va))))) ?_ (fun jn41 => ?_)
  · intro v9 hv9
    subst hv9
    refine lv_istore (lv' := [(6, .int (bI (inR vm (nI 0) (nI 255) && (inR va (nI 0) (nI 99) && !decide (nI (σ 2) < va))))), (0, .ref (ma 0)), (1, .int vf), (2, .int vc), (3, .int vm), (4, .int va), (5, .int (bI ph))]) hx hb dX8_sight_41 hl (by decide) rfl (fun ls hl => ?_)
    refine lv_aload_n hx hb dX8_sight_43 rfl (lv_at hl 1 rfl) ?_
    refine jn_i (pcj := 87) (ls := ls) (st := [.ref (ma 0)]) (fun v9 => v9 = (nI (rkm 1 2 3 (fTell σ vf vc vm va)))) ?_ (fun jn87 => ?_)
    · intro v9 hv9
      subst hv9
      refine wr_call (wc := [(ma 0, .inr (6, [.int (nI rf), .ref (ma 1), .int (nI ln), .ref (ma 2), .ref (ma 3), .ref (ma 4), .int (nI n), .ref (ma 5), .ref (ma 6), .ref (ma 7), .ref (ma 8), .int (nI sp), .int (nI ou)]))]) (va_runV (As := [.int (nI (rkm 1 2 3 (fTell σ vf vc vm va)))]) (rest := []) ⟨hx, hb, hml, hown, hts⟩ (c_X8_refused l g cy (ma 0) (ma 1) (ma 2) (ma 3) (ma 4) (ma 5) (ma 6) (ma 7) (ma 8) s.heap.size rf ln n sp ou (rkm 1 2 3 (fTell σ vf vc vm va)) (by omega)) ⟨(cB 1 hts wd7_21 wd1_5 wd7_18 rfl rfl (by decide +kernel) ⟨Nat.le_of_ble_eq_true rfl, Nat.le_of_ble_eq_true rfl⟩), hts _ wd7_19, hts _ wd7_20⟩ (pv hK hP hD hS hA hX [0] rfl rfl 6 0 rfl rfl) rfl rfl hl.1 rfl (lv_room (Nat.le_of_ble_eq_true rfl)) dX8_sight_87 ⟨Nat.zero_le _, Nat.zero_le _⟩) hP hD hS hA [0] rfl rfl (fun _ => (rfl : ([ma 0] : List Nat) = [ma 0])) ?_
      rintro _u9 H locs - hP hD hS
      have hP : va_P g vwCl [(ma 0, .inr (6, [.int (nI (rkm 1 2 3 (fTell σ vf vc vm va))), .ref (ma 1), .int (nI ln), .ref (ma 2), .ref (ma 3), .ref (ma 4), .int (nI n), .ref (ma 5), .ref (ma 6), .ref (ma 7), .ref (ma 8), .int (nI sp), .int (nI ou)])), aI cy (ma 1) 120 (mS tx), aI cy (ma 2) 248 (mS σ), aI cy (ma 3) 248 (mS tr), aI cy (ma 4) 3472 (mS dy), aI cy (ma 5) 496 (mS kp), aZ cy (ma 6) 2 (fun j => bI (fl j)), aI cy (ma 7) 144 (mS wy), aI cy (ma 8) 8 (mS hp)] H := hP
      have hD : va_D A [(ma 0, .inr (6, [.int (nI (rkm 1 2 3 (fTell σ vf vc vm va))), .ref (ma 1), .int (nI ln), .ref (ma 2), .ref (ma 3), .ref (ma 4), .int (nI n), .ref (ma 5), .ref (ma 6), .ref (ma 7), .ref (ma 8), .int (nI sp), .int (nI ou)])), aI cy (ma 1) 120 (mS tx), aI cy (ma 2) 248 (mS σ), aI cy (ma 3) 248 (mS tr), aI cy (ma 4) 3472 (mS dy), aI cy (ma 5) 496 (mS kp), aZ cy (ma 6) 2 (fun j => bI (fl j)), aI cy (ma 7) 144 (mS wy), aI cy (ma 8) 8 (mS hp)] := hD
      show W _ _ _ _ _ _ _ _ _ _ _ _ _ _ _ (F0 mX 90 ls [.int (bI (decide (0 < (rkm 1 2 3 (fTell σ vf vc vm va)))))])
      refine lv_if_eq (tgt := 95) hx hb dX8_sight_90 (by decide) (fun c_90 => ?_) (fun c_90 => ?_)
      · have c_90 := (bI_eq0.mp c_90)
        have c_90 : fTell σ vf vc vm va = 0 := hfr.resolve_right (of_decide_eq_false c_90)
        obtain ⟨f9, c9, m9, a9, ⟨rfl, rfl, rfl, rfl⟩, hf9, hc9, hm9, ha9, hah, hn20⟩ := fTell_0 (by omega) c_90
        have hsr := sightR_0 (ph := ph) hf9 hc9 hm9 ha9 c_90
        refine lv_aload_n hx hb dX8_sight_95 rfl (lv_at hl 1 rfl) ?_
        refine wr_call (wc := [(ma 0, .inr (6, [.int (nI (rkm 1 2 3 (fTell σ (nI f9) (nI c9) (nI m9) (nI a9)))), .ref (ma 1), .int (nI ln), .ref (ma 2), .ref (ma 3), .ref (ma 4), .int (nI n), .ref (ma 5), .ref (ma 6), .ref (ma 7), .ref (ma 8), .int (nI sp), .int (nI ou)])), aI cy (ma 2) 248 (mS σ), aI cy (ma 4) 3472 (mS dy)]) (va_runV (As := []) (rest := []) ⟨hx, hb, hml, hown, hts⟩ (c_X8_remember l g cy (ma 0) (ma 1) (ma 2) (ma 3) (ma 4) (ma 5) (ma 6) (ma 7) (ma 8) H.size (rkm 1 2 3 (fTell σ (nI f9) (nI c9) (nI m9) (nI a9))) ln n sp ou σ dy (by omega)) ⟨(cB 0 hts wd30_21 wd1_5 wd30_18 rfl rfl (by decide +kernel) ⟨Nat.le_of_ble_eq_true rfl, Nat.le_of_ble_eq_true rfl⟩), hts _ wd30_19, hts _ wd30_20⟩ (pv hK hP hD hS hA hX [0, 2, 4] rfl rfl 6 0 rfl rfl) rfl rfl hl.1 rfl (lv_room (Nat.le_of_ble_eq_true rfl)) dX8_sight_96 ⟨Nat.zero_le _, Nat.zero_le _⟩) hP hD hS hA [0, 2, 4] rfl rfl (fun _ => (rfl : ([ma 0, ma 2, ma 4] : List Nat) = [ma 0, ma 2, ma 4])) ?_
        rintro _u9 H locs - hP hD hS
        have hP : va_P g vwCl [(ma 0, .inr (6, [.int (nI (rkm 1 2 3 (fTell σ (nI f9) (nI c9) (nI m9) (nI a9)))), .ref (ma 1), .int (nI ln), .ref (ma 2), .ref (ma 3), .ref (ma 4), .int (nI (hiN n)), .ref (ma 5), .ref (ma 6), .ref (ma 7), .ref (ma 8), .int (nI sp), .int (nI ou)])), aI cy (ma 1) 120 (mS tx), aI cy (ma 2) 248 (mS σ), aI cy (ma 3) 248 (mS tr), aI cy (ma 4) 3472 (mS (remD σ dy n)), aI cy (ma 5) 496 (mS kp), aZ cy (ma 6) 2 (fun j => bI (fl j)), aI cy (ma 7) 144 (mS wy), aI cy (ma 8) 8 (mS hp)] H := hP
        have hD : va_D A [(ma 0, .inr (6, [.int (nI (rkm 1 2 3 (fTell σ (nI f9) (nI c9) (nI m9) (nI a9)))), .ref (ma 1), .int (nI ln), .ref (ma 2), .ref (ma 3), .ref (ma 4), .int (nI (hiN n)), .ref (ma 5), .ref (ma 6), .ref (ma 7), .ref (ma 8), .int (nI sp), .int (nI ou)])), aI cy (ma 1) 120 (mS tx), aI cy (ma 2) 248 (mS σ), aI cy (ma 3) 248 (mS tr), aI cy (ma 4) 3472 (mS (remD σ dy n)), aI cy (ma 5) 496 (mS kp), aZ cy (ma 6) 2 (fun j => bI (fl j)), aI cy (ma 7) 144 (mS wy), aI cy (ma 8) 8 (mS hp)] := hD
        show W _ _ _ _ _ _ _ _ _ _ _ _ _ _ _ (F0 mX 99 ls [])
        refine lv_aload_n hx hb dX8_sight_99 rfl (lv_at hl 1 rfl) ?_
        refine va_get (D := g) (ci := 6) (v := .ref (ma 2)) (C := RX8) (T := TX8) (N := 13) hx hb hts bgX8 hown hK hP 0 rfl rfl 3 (by decide) (hts _ wd5_21) (fun _ h9 => h9) rfl dX8_sight_100 ?_
        refine lv_iload_n hx hb dX8_sight_103 rfl (lv_at hl 2 rfl) ?_
        refine lv_iload_n hx hb dX8_sight_104 rfl (lv_at hl 3 rfl) ?_
        refine lv_iload_n hx hb dX8_sight_105 rfl (lv_at hl 4 rfl) ?_
        refine lv_iload hx hb dX8_sight_106 (lv_at hl 5 rfl) ?_
        refine lv_iload hx hb dX8_sight_108 (lv_at hl 6 rfl) ?_
        refine wr_call (wc := [aI cy (ma 2) 248 (mS σ)]) (va_runS (As := [.ref (ma 2), .int (nI f9), .int (nI c9), .int (nI m9), .int (nI a9), .int (bI ph)]) (rest := []) ⟨hx, hb, hml, hown, hts⟩ (c_X8_sightOn l g cy (ma 2) H.size σ bd f9 c9 m9 a9 ph hwf (by omega) (by omega) (by omega)) ⟨(cB 6 hts wd12_14 wd1_5 wd12_12 rfl rfl (by decide +kernel) ⟨Nat.le_of_ble_eq_true rfl, Nat.le_of_ble_eq_true rfl⟩), hts _ wd12_13⟩ (ps hK hP hD hS hA hX [2] rfl rfl) rfl rfl hl.1 rfl (lv_room (Nat.le_of_ble_eq_true rfl)) dX8_sight_110 ⟨Nat.zero_le _, Nat.zero_le _⟩) hP hD hS hA [2] rfl rfl (fun _ => (rfl : ([ma 2] : List Nat) = [ma 2])) ?_
        rintro _u9 H locs - hP hD hS
        have hP : va_P g vwCl [(ma 0, .inr (6, [.int (nI (rkm 1 2 3 (fTell σ (nI f9) (nI c9) (nI m9) (nI a9)))), .ref (ma 1), .int (nI ln), .ref (ma 2), .ref (ma 3), .ref (ma 4), .int (nI (hiN n)), .ref (ma 5), .ref (ma 6), .ref (ma 7), .ref (ma 8), .int (nI sp), .int (nI ou)])), aI cy (ma 1) 120 (mS tx), aI cy (ma 2) 248 (mS (sightS σ f9 c9 m9 a9 (if ph then 1 else 0))), aI cy (ma 3) 248 (mS tr), aI cy (ma 4) 3472 (mS (remD σ dy n)), aI cy (ma 5) 496 (mS kp), aZ cy (ma 6) 2 (fun j => bI (fl j)), aI cy (ma 7) 144 (mS wy), aI cy (ma 8) 8 (mS hp)] H := hP
        have hD : va_D A [(ma 0, .inr (6, [.int (nI (rkm 1 2 3 (fTell σ (nI f9) (nI c9) (nI m9) (nI a9)))), .ref (ma 1), .int (nI ln), .ref (ma 2), .ref (ma 3), .ref (ma 4), .int (nI (hiN n)), .ref (ma 5), .ref (ma 6), .ref (ma 7), .ref (ma 8), .int (nI sp), .int (nI ou)])), aI cy (ma 1) 120 (mS tx), aI cy (ma 2) 248 (mS (sightS σ f9 c9 m9 a9 (if ph then 1 else 0))), aI cy (ma 3) 248 (mS tr), aI cy (ma 4) 3472 (mS (remD σ dy n)), aI cy (ma 5) 496 (mS kp), aZ cy (ma 6) 2 (fun j => bI (fl j)), aI cy (ma 7) 144 (mS wy), aI cy (ma 8) 8 (mS hp)] := hD
        show W _ _ _ _ _ _ _ _ _ _ _ _ _ _ _ (F0 mX 113 ls [.int (nI (mea σ m9 (σ 2 - a9)))])
        exact wr_i (tr, remD σ dy n, kp, wy, hp, sp, ou, rkm 1 2 3 (fTell σ (nI f9) (nI c9) (nI m9) (nI a9))) (by rw [if_pos c_90]; rw [hsr.2]) ⟨rfl, (by simp only [if_pos c_90]; exact ⟨(WF_sightR hwf), (rem_n hn14), (rem_dy hn14 hdy), hkp, htx, hln⟩)⟩ (by simp only [if_pos c_90]; rw [hsr.1]; exact hP) hS hx hb hr dX8_sight_113 hlk
      · have c_90 := (bI_ne0.mp c_90)
        have c_90 : ¬ fTell σ vf vc vm va = 0 := fun e => by rw [e] at c_90; exact absurd c_90 (by decide)
        refine lv_iconst (v := (nI 0)) hx hb dX8_sight_93 (by decide) ?_
        exact wr_i (tr, dy, kp, wy, hp, sp, ou, rkm 1 2 3 (fTell σ vf vc vm va)) (by rw [if_neg c_90]) ⟨rfl, (by rw [show sightR σ vf vc vm va ph = σ from if_neg c_90]; simp only [if_neg c_90]; exact ⟨hwf, hn14, hdy, hkp, htx, hln⟩)⟩ (by rw [show sightR σ vf vc vm va ph = σ from if_neg c_90]; simp only [if_neg c_90]; exact hP) hS hx hb hr dX8_sight_94 hlk
    · skip
      refine lv_iload_n hx hb dX8_sight_44 rfl (lv_at hl 2 rfl) ?_
      refine rd_call (va_runS (As := [.int vf]) (rest := [.ref (ma 0)]) ⟨hx, hb, hml, hown, hts⟩ (c_X8_isFinder l vf ) ⟨(cB 1 hts wd27_3 wd1_5 wd27_1 rfl rfl (by decide +kernel) ⟨Nat.le_of_ble_eq_true rfl, Nat.le_of_ble_eq_true rfl⟩), hts _ wd27_2⟩ p0 rfl rfl hl.1 rfl (lv_room (Nat.le_of_ble_eq_true rfl)) dX8_sight_45 ⟨Nat.zero_le _, Nat.zero_le _⟩) ?_
      show W _ _ _ _ _ _ _ _ _ _ _ _ _ _ _ (F0 mX 48 ls [.int (bI (inR vf (nI 0) (nI 7))), .ref (ma 0)])
      refine lv_if_eq (tgt := 58) hx hb dX8_sight_48 (by decide) (fun c_48 => ?_) (fun c_48 => ?_)
      · have c_48 := (bI_eq0.mp c_48)
        refine lv_iconst (v := (nI 1)) hx hb dX8_sight_58 (by decide) ?_
        refine lv_goto (tgt := 87) hx hb dX8_sight_59 (by decide) ?_
        exact jn87 _ (congrArg nI (by unfold fTell rkm; simp [c_48]))
      · have c_48 := (bI_ne0.mp c_48)
        refine lv_iload_n hx hb dX8_sight_51 rfl (lv_at hl 3 rfl) ?_
        refine rd_call (va_runS (As := [.int vc]) (rest := [.ref (ma 0)]) ⟨hx, hb, hml, hown, hts⟩ (c_X8_isCorner l vc ) ⟨(cB 1 hts wd28_15 wd1_5 wd28_13 rfl rfl (by decide +kernel) ⟨Nat.le_of_ble_eq_true rfl, Nat.le_of_ble_eq_true rfl⟩), hts _ wd28_14⟩ p0 rfl rfl hl.1 rfl (lv_room (Nat.le_of_ble_eq_true rfl)) dX8_sight_52 ⟨Nat.zero_le _, Nat.zero_le _⟩) ?_
        show W _ _ _ _ _ _ _ _ _ _ _ _ _ _ _ (F0 mX 55 ls [.int (bI (inR vc (nI 0) (nI 11))), .ref (ma 0)])
        refine lv_if_ne (tgt := 62) hx hb dX8_sight_55 (by decide) (fun c_55 => ?_) (fun c_55 => ?_)
        · have c_55 := (bI_ne0.mp c_55)
          refine lv_iload hx hb dX8_sight_62 (lv_at hl 0 rfl) ?_
          refine lv_if_ne (tgt := 71) hx hb dX8_sight_64 (by decide) (fun c_64 => ?_) (fun c_64 => ?_)
          · have c_64 := (bI_ne0.mp c_64)
            refine lv_aload_n hx hb dX8_sight_71 rfl (lv_at hl 1 rfl) ?_
            refine va_get (D := g) (ci := 6) (v := .ref (ma 2)) (C := RX8) (T := TX8) (N := 13) hx hb hts bgX8 hown hK hP 0 rfl rfl 3 (by decide) (hts _ wd5_21) (fun _ h9 => h9) rfl dX8_sight_72 ?_
            refine lv_iconst (v := (nI 1)) hx hb dX8_sight_75 (by decide) ?_
            refine va_iald hx hb hK hP 2 0 rfl rfl (vp_in_nI (n := 1) (by omega) (by omega)) dX8_sight_76 ?_
            refine ti (show (mS σ) (nI 1).toNatClampNeg = nI (σ 1) from by rw [nI_clamp (by omega)]; rfl) ?_
            refine lv_bipush (v := (nI 20)) hx hb dX8_sight_77 (by decide) ?_
            refine lv_icmp_ge (tgt := 86) hx hb dX8_sight_79 (by decide) (fun c_79 => ?_) (fun c_79 => ?_)
            · have c_79 := (nc_le (by omega) (by omega) c_79)
              refine lv_iconst (v := (nI 3)) hx hb dX8_sight_86 (by decide) ?_
              exact jn87 _ (congrArg nI (by unfold fTell rkm; simp [c_48, c_55, c_64, c_79]))
            · have c_79 := (nc_nle (by omega) (by omega) c_79)
              refine lv_iconst (v := (nI 0)) hx hb dX8_sight_82 (by decide) ?_
              refine lv_goto (tgt := 87) hx hb dX8_sight_83 (by decide) ?_
              exact jn87 _ (congrArg nI (by unfold fTell rkm; simp [c_48, c_55, c_64, Nat.not_le.mpr c_79]))
          · have c_64 := (bI_eq0.mp c_64)
            refine lv_iconst (v := (nI 2)) hx hb dX8_sight_67 (by decide) ?_
            refine lv_goto (tgt := 87) hx hb dX8_sight_68 (by decide) ?_
            exact jn87 _ (congrArg nI (by unfold fTell rkm; simp [c_48, c_55, c_64]))
        · have c_55 := (bI_eq0.mp c_55)
          refine lv_iconst (v := (nI 1)) hx hb dX8_sight_58 (by decide) ?_
          refine lv_goto (tgt := 87) hx hb dX8_sight_59 (by decide) ?_
          exact jn87 _ (congrArg nI (by unfold fTell rkm; simp [c_48, c_55]))
  · skip
    refine lv_iload_n hx hb dX8_sight_0 rfl (lv_at hl 3 rfl) ?_
    refine lv_i2l (v := vm.toInt64) hx hb dX8_sight_1 rfl ?_
    refine lv_lconst (v := 0) hx hb dX8_sight_2 rfl ?_
    refine lv_ldc2 hx hb hown (hts _ wd7_13) dX8_sight_3 ?_
    refine rd_call (va_runS (As := [.long vm.toInt64, .long (0 : Int64), .long (255 : Int64)]) (rest := []) ⟨hx, hb, hml, hown, hts⟩ (c_X8_in l vm.toInt64 (0 : Int64) (255 : Int64) ) ⟨(cB 3 hts wd7_17 wd1_5 wd7_15 rfl rfl (by decide +kernel) ⟨Nat.le_of_ble_eq_true rfl, Nat.le_of_ble_eq_true rfl⟩), hts _ wd7_16⟩ p0 rfl rfl hl.1 rfl (lv_room (Nat.le_of_ble_eq_true rfl)) dX8_sight_6 ⟨Nat.zero_le _, Nat.zero_le _⟩) ?_
    show W _ _ _ _ _ _ _ _ _ _ _ _ _ _ _ (F0 mX 9 ls [.int (bI (inL vm.toInt64 (0 : Int64) (255 : Int64)))])
    refine ti (show (bI (inL vm.toInt64 (0 : Int64) (255 : Int64))) = (bI (inR vm (nI 0) (nI 255))) from (congrArg bI (inL_c (a := 0) (b := 255) (by decide) (by decide)))) ?_
    refine lv_if_eq (tgt := 40) hx hb dX8_sight_9 (by decide) (fun c_9 => ?_) (fun c_9 => ?_)
    · have c_9 := (bI_eq0.mp c_9)
      refine lv_iconst (v := (nI 0)) hx hb dX8_sight_40 (by decide) ?_
      exact jn41 _ (by simp only [c_9]; rfl)
    · have c_9 := (bI_ne0.mp c_9)
      refine lv_iload hx hb dX8_sight_12 (lv_at hl 4 rfl) ?_
      refine lv_i2l (v := va.toInt64) hx hb dX8_sight_14 rfl ?_
      refine lv_lconst (v := 0) hx hb dX8_sight_15 rfl ?_
      refine lv_ldc2 hx hb hown (hts _ wd31_11) dX8_sight_16 ?_
      refine rd_call (va_runS (As := [.long va.toInt64, .long (0 : Int64), .long (99 : Int64)]) (rest := []) ⟨hx, hb, hml, hown, hts⟩ (c_X8_in l va.toInt64 (0 : Int64) (99 : Int64) ) ⟨(cB 3 hts wd7_17 wd1_5 wd7_15 rfl rfl (by decide +kernel) ⟨Nat.le_of_ble_eq_true rfl, Nat.le_of_ble_eq_true rfl⟩), hts _ wd7_16⟩ p0 rfl rfl hl.1 rfl (lv_room (Nat.le_of_ble_eq_true rfl)) dX8_sight_19 ⟨Nat.zero_le _, Nat.zero_le _⟩) ?_
      show W _ _ _ _ _ _ _ _ _ _ _ _ _ _ _ (F0 mX 22 ls [.int (bI (inL va.toInt64 (0 : Int64) (99 : Int64)))])
      refine ti (show (bI (inL va.toInt64 (0 : Int64) (99 : Int64))) = (bI (inR va (nI 0) (nI 99))) from (congrArg bI (inL_c (a := 0) (b := 99) (by decide) (by decide)))) ?_
      refine lv_if_eq (tgt := 40) hx hb dX8_sight_22 (by decide) (fun c_22 => ?_) (fun c_22 => ?_)
      · have c_22 := (bI_eq0.mp c_22)
        refine lv_iconst (v := (nI 0)) hx hb dX8_sight_40 (by decide) ?_
        exact jn41 _ (by simp only [c_9, c_22]; rfl)
      · have c_22 := (bI_ne0.mp c_22)
        refine lv_iload hx hb dX8_sight_25 (lv_at hl 4 rfl) ?_
        refine lv_aload_n hx hb dX8_sight_27 rfl (lv_at hl 0 rfl) ?_
        refine va_get (D := g) (ci := 6) (v := .ref (ma 2)) (C := RX8) (T := TX8) (N := 13) hx hb hts bgX8 hown hK hP 0 rfl rfl 3 (by decide) (hts _ wd5_21) (fun _ h9 => h9) rfl dX8_sight_28 ?_
        refine lv_iconst (v := (nI 2)) hx hb dX8_sight_31 (by decide) ?_
        refine va_iald hx hb hK hP 2 0 rfl rfl (vp_in_nI (n := 2) (by omega) (by omega)) dX8_sight_32 ?_
        refine ti (show (mS σ) (nI 2).toNatClampNeg = nI (σ 2) from by rw [nI_clamp (by omega)]; rfl) ?_
        refine ti (show (nI (σ 2)) = (nI (σ 2)) from rfl) ?_
        refine lv_icmp_gt (tgt := 40) hx hb dX8_sight_33 (by decide) (fun c_33 => ?_) (fun c_33 => ?_)
        · skip
          refine lv_iconst (v := (nI 0)) hx hb dX8_sight_40 (by decide) ?_
          exact jn41 _ (by simp only [c_9, c_22, c_33]; rfl)
        · skip
          have c_33 : va ≤ nI (σ 2) := Int32.not_lt.mp c_33
          refine lv_iconst (v := (nI 1)) hx hb dX8_sight_36 (by decide) ?_
          refine lv_goto (tgt := 41) hx hb dX8_sight_37 (by decide) ?_
          exact jn41 _ (by simp only [c_9, c_22, Int32.not_lt.mpr c_33]; rfl)
set_option maxHeartbeats 4000000 in
set_option maxRecDepth 100000 in
theorem c_X8_find (l : Launch) (g : va_G) (cy : Nat → ClassId) (ma : Nat → Nat) (sz : Nat) (bd : Nat) (q : Mc) (σ : Nat → Nat) (Hh : Nat → Nat → Nat) (n : Nat) (K : Nat → Nat → Nat) (fl : Nat → Bool) (tx : Nat → Nat) (ln : Nat) (vd : Int32) (vf : Int32) (vc : Int32) (hI : mI bd q σ Hh n K fl tx ln) : Met l yX8_find (Cond.code yX8_find cX8_find 4 (some .int) :: wsL_law) ({ frames := 6, cells := 0, slots := 0, locals := 148 } : Room) (va_Pc [.ref (ma 0), .int vd, .int vf, .int vc] (pr g cy (mQ cy ma q σ n fl tx ln) sz)) (wr_Q (fun _ : Mc => (some (.int (nI (if fFind σ vd vf vc = 0 then findA σ vd vf vc else 0))))) (fun q9 : Mc => q9.2.2.2.2.2.2.2 = rkm 1 0 2 (fFind σ vd vf vc) ∧ mI bd q9 (findR σ vd vf vc) (if fFind σ vd vf vc = 0 then hiH Hh n σ else Hh) (if fFind σ vd vf vc = 0 then hiN n else n) K fl tx ln) (fun q9 : Mc => mQ cy ma q9 (findR σ vd vf vc) (if fFind σ vd vf vc = 0 then hiN n else n) fl tx ln) g (va_A (mQ cy ma q σ n fl tx ln) sz)) 0 0 (va_A (mQ cy ma q σ n fl tx ln) sz) := by
  obtain ⟨tr, dy, kp, wy, hp, sp, ou, rf⟩ := q
  obtain ⟨hwf, hn14, hdy, hkp, htx, hln⟩ := hI
  have hdy : ∀ k, k < n → ∀ j, j < 248 → dy (248 * k + j) = Hh k j := hdy
  have hkp : ∀ k, k < 2 → fl k = true → ∀ j, j < 248 → kp (248 * k + j) = K k j := hkp
  refine mt_of (cc := cX8_find) (maxL := 4) (ret := (some .int)) (by decide +kernel) (Nat.le_of_ble_eq_true rfl) ?_
  intro pX eX s mX below meth cX ls A hx hb hr hml hown hts hlk hin hsz hAe hA hP hD hK hX hl
  subst hsz
  rw [← hAe]
  clear hAe
  have hP : va_P g vwCl [(ma 0, .inr (6, [.int (nI rf), .ref (ma 1), .int (nI ln), .ref (ma 2), .ref (ma 3), .ref (ma 4), .int (nI n), .ref (ma 5), .ref (ma 6), .ref (ma 7), .ref (ma 8), .int (nI sp), .int (nI ou)])), aI cy (ma 1) 120 (mS tx), aI cy (ma 2) 248 (mS σ), aI cy (ma 3) 248 (mS tr), aI cy (ma 4) 3472 (mS dy), aI cy (ma 5) 496 (mS kp), aZ cy (ma 6) 2 (fun j => bI (fl j)), aI cy (ma 7) 144 (mS wy), aI cy (ma 8) 8 (mS hp)] s.heap := hP
  have hD : va_D A [(ma 0, .inr (6, [.int (nI rf), .ref (ma 1), .int (nI ln), .ref (ma 2), .ref (ma 3), .ref (ma 4), .int (nI n), .ref (ma 5), .ref (ma 6), .ref (ma 7), .ref (ma 8), .int (nI sp), .int (nI ou)])), aI cy (ma 1) 120 (mS tx), aI cy (ma 2) 248 (mS σ), aI cy (ma 3) 248 (mS tr), aI cy (ma 4) 3472 (mS dy), aI cy (ma 5) 496 (mS kp), aZ cy (ma 6) 2 (fun j => bI (fl j)), aI cy (ma 7) 144 (mS wy), aI cy (ma 8) 8 (mS hp)] := hD
  have hl : lv_has ls 4 [(0, .ref (ma 0)), (1, .int vd), (2, .int vf), (3, .int vc)] := hl
  have hS : va_S A s.heap s.heap [] := va_S.rf
  have hn0 := hwf.n0
  have hn1 := hwf.n1
  have hh2 := hwf.h2
  have hfr : fFind σ vd vf vc = 0 ∨ 0 < rkm 1 0 2 (fFind σ vd vf vc) := by unfold fFind fAsk rkm; (repeat' split) <;> omega
  have hfl9 : rkm 1 0 2 (fFind σ vd vf vc) < 10 := by unfold rkm; (repeat' split) <;> omega
  refine lv_aload_n hx hb dX8_find_0 rfl (lv_at hl 0 rfl) ?_
  refine jn_i (pcj := 46) (ls := ls) (st := [.ref (ma 0)]) (fun v9 => v9 = (nI (rkm 1 0 2 (fFind σ vd vf vc)))) ?_ (fun jn46 => ?_)
  · intro v9 hv9
    subst hv9
    refine wr_call (wc := [(ma 0, .inr (6, [.int (nI rf), .ref (ma 1), .int (nI ln), .ref (ma 2), .ref (ma 3), .ref (ma 4), .int (nI n), .ref (ma 5), .ref (ma 6), .ref (ma 7), .ref (ma 8), .int (nI sp), .int (nI ou)]))]) (va_runV (As := [.int (nI (rkm 1 0 2 (fFind σ vd vf vc)))]) (rest := []) ⟨hx, hb, hml, hown, hts⟩ (c_X8_refused l g cy (ma 0) (ma 1) (ma 2) (ma 3) (ma 4) (ma 5) (ma 6) (ma 7) (ma 8) s.heap.size rf ln n sp ou (rkm 1 0 2 (fFind σ vd vf vc)) (by omega)) ⟨(cB 1 hts wd7_21 wd1_5 wd7_18 rfl rfl (by decide +kernel) ⟨Nat.le_of_ble_eq_true rfl, Nat.le_of_ble_eq_true rfl⟩), hts _ wd7_19, hts _ wd7_20⟩ (pv hK hP hD hS hA hX [0] rfl rfl 6 0 rfl rfl) rfl rfl hl.1 rfl (lv_room (Nat.le_of_ble_eq_true rfl)) dX8_find_46 ⟨Nat.zero_le _, Nat.zero_le _⟩) hP hD hS hA [0] rfl rfl (fun _ => (rfl : ([ma 0] : List Nat) = [ma 0])) ?_
    rintro _u9 H locs - hP hD hS
    have hP : va_P g vwCl [(ma 0, .inr (6, [.int (nI (rkm 1 0 2 (fFind σ vd vf vc))), .ref (ma 1), .int (nI ln), .ref (ma 2), .ref (ma 3), .ref (ma 4), .int (nI n), .ref (ma 5), .ref (ma 6), .ref (ma 7), .ref (ma 8), .int (nI sp), .int (nI ou)])), aI cy (ma 1) 120 (mS tx), aI cy (ma 2) 248 (mS σ), aI cy (ma 3) 248 (mS tr), aI cy (ma 4) 3472 (mS dy), aI cy (ma 5) 496 (mS kp), aZ cy (ma 6) 2 (fun j => bI (fl j)), aI cy (ma 7) 144 (mS wy), aI cy (ma 8) 8 (mS hp)] H := hP
    have hD : va_D A [(ma 0, .inr (6, [.int (nI (rkm 1 0 2 (fFind σ vd vf vc))), .ref (ma 1), .int (nI ln), .ref (ma 2), .ref (ma 3), .ref (ma 4), .int (nI n), .ref (ma 5), .ref (ma 6), .ref (ma 7), .ref (ma 8), .int (nI sp), .int (nI ou)])), aI cy (ma 1) 120 (mS tx), aI cy (ma 2) 248 (mS σ), aI cy (ma 3) 248 (mS tr), aI cy (ma 4) 3472 (mS dy), aI cy (ma 5) 496 (mS kp), aZ cy (ma 6) 2 (fun j => bI (fl j)), aI cy (ma 7) 144 (mS wy), aI cy (ma 8) 8 (mS hp)] := hD
    show W _ _ _ _ _ _ _ _ _ _ _ _ _ _ _ (F0 mX 49 ls [.int (bI (decide (0 < (rkm 1 0 2 (fFind σ vd vf vc)))))])
    refine lv_if_eq (tgt := 54) hx hb dX8_find_49 (by decide) (fun c_49 => ?_) (fun c_49 => ?_)
    · have c_49 := (bI_eq0.mp c_49)
      have c_49 : fFind σ vd vf vc = 0 := hfr.resolve_right (of_decide_eq_false c_49)
      obtain ⟨d9, f9, c9, ⟨rfl, rfl, rfl⟩, hd9, hm9, hf9, hc9⟩ := fFind_0 hn0 c_49
      have hs9 := findR_0 (by omega) hf9 hc9 c_49
      refine lv_aload_n hx hb dX8_find_54 rfl (lv_at hl 0 rfl) ?_
      refine wr_call (wc := [(ma 0, .inr (6, [.int (nI (rkm 1 0 2 (fFind σ (nI d9) (nI f9) (nI c9)))), .ref (ma 1), .int (nI ln), .ref (ma 2), .ref (ma 3), .ref (ma 4), .int (nI n), .ref (ma 5), .ref (ma 6), .ref (ma 7), .ref (ma 8), .int (nI sp), .int (nI ou)])), aI cy (ma 2) 248 (mS σ), aI cy (ma 4) 3472 (mS dy)]) (va_runV (As := []) (rest := []) ⟨hx, hb, hml, hown, hts⟩ (c_X8_remember l g cy (ma 0) (ma 1) (ma 2) (ma 3) (ma 4) (ma 5) (ma 6) (ma 7) (ma 8) H.size (rkm 1 0 2 (fFind σ (nI d9) (nI f9) (nI c9))) ln n sp ou σ dy (by omega)) ⟨(cB 0 hts wd30_21 wd1_5 wd30_18 rfl rfl (by decide +kernel) ⟨Nat.le_of_ble_eq_true rfl, Nat.le_of_ble_eq_true rfl⟩), hts _ wd30_19, hts _ wd30_20⟩ (pv hK hP hD hS hA hX [0, 2, 4] rfl rfl 6 0 rfl rfl) rfl rfl hl.1 rfl (lv_room (Nat.le_of_ble_eq_true rfl)) dX8_find_55 ⟨Nat.zero_le _, Nat.zero_le _⟩) hP hD hS hA [0, 2, 4] rfl rfl (fun _ => (rfl : ([ma 0, ma 2, ma 4] : List Nat) = [ma 0, ma 2, ma 4])) ?_
      rintro _u9 H locs - hP hD hS
      have hP : va_P g vwCl [(ma 0, .inr (6, [.int (nI (rkm 1 0 2 (fFind σ (nI d9) (nI f9) (nI c9)))), .ref (ma 1), .int (nI ln), .ref (ma 2), .ref (ma 3), .ref (ma 4), .int (nI (hiN n)), .ref (ma 5), .ref (ma 6), .ref (ma 7), .ref (ma 8), .int (nI sp), .int (nI ou)])), aI cy (ma 1) 120 (mS tx), aI cy (ma 2) 248 (mS σ), aI cy (ma 3) 248 (mS tr), aI cy (ma 4) 3472 (mS (remD σ dy n)), aI cy (ma 5) 496 (mS kp), aZ cy (ma 6) 2 (fun j => bI (fl j)), aI cy (ma 7) 144 (mS wy), aI cy (ma 8) 8 (mS hp)] H := hP
      have hD : va_D A [(ma 0, .inr (6, [.int (nI (rkm 1 0 2 (fFind σ (nI d9) (nI f9) (nI c9)))), .ref (ma 1), .int (nI ln), .ref (ma 2), .ref (ma 3), .ref (ma 4), .int (nI (hiN n)), .ref (ma 5), .ref (ma 6), .ref (ma 7), .ref (ma 8), .int (nI sp), .int (nI ou)])), aI cy (ma 1) 120 (mS tx), aI cy (ma 2) 248 (mS σ), aI cy (ma 3) 248 (mS tr), aI cy (ma 4) 3472 (mS (remD σ dy n)), aI cy (ma 5) 496 (mS kp), aZ cy (ma 6) 2 (fun j => bI (fl j)), aI cy (ma 7) 144 (mS wy), aI cy (ma 8) 8 (mS hp)] := hD
      show W _ _ _ _ _ _ _ _ _ _ _ _ _ _ _ (F0 mX 58 ls [])
      refine lv_aload_n hx hb dX8_find_58 rfl (lv_at hl 0 rfl) ?_
      refine lv_aload_n hx hb dX8_find_59 rfl (lv_at hl 0 rfl) ?_
      refine va_get (D := g) (ci := 6) (v := .ref (ma 2)) (C := RX8) (T := TX8) (N := 13) hx hb hts bgX8 hown hK hP 0 rfl rfl 3 (by decide) (hts _ wd5_21) (fun _ h9 => h9) rfl dX8_find_60 ?_
      refine lv_iload_n hx hb dX8_find_63 rfl (lv_at hl 1 rfl) ?_
      refine lv_iload_n hx hb dX8_find_64 rfl (lv_at hl 2 rfl) ?_
      refine lv_iload_n hx hb dX8_find_65 rfl (lv_at hl 3 rfl) ?_
      refine wr_call (wc := [(ma 0, .inr (6, [.int (nI (rkm 1 0 2 (fFind σ (nI d9) (nI f9) (nI c9)))), .ref (ma 1), .int (nI ln), .ref (ma 2), .ref (ma 3), .ref (ma 4), .int (nI (hiN n)), .ref (ma 5), .ref (ma 6), .ref (ma 7), .ref (ma 8), .int (nI sp), .int (nI ou)])), aI cy (ma 7) 144 (mS wy), aI cy (ma 8) 8 (mS hp), aI cy (ma 2) 248 (mS σ)]) (va_runV (As := [.ref (ma 2), .int (nI d9), .int (nI f9), .int (nI c9)]) (rest := []) ⟨hx, hb, hml, hown, hts⟩ (c_X8_findOn l g cy (ma 0) (ma 1) (ma 2) (ma 3) (ma 4) (ma 5) (ma 6) (ma 7) (ma 8) (ma 2) H.size (rkm 1 0 2 (fFind σ (nI d9) (nI f9) (nI c9))) ln (hiN n) sp ou wy σ bd hp d9 f9 c9 hwf (by omega) (by omega) (by omega) hm9) ⟨(cB 4 hts wd13_16 wd1_5 wd13_13 rfl rfl (by decide +kernel) ⟨Nat.le_of_ble_eq_true rfl, Nat.le_of_ble_eq_true rfl⟩), hts _ wd13_14, hts _ wd13_15⟩ (pv hK hP hD hS hA hX [0, 7, 8, 2] rfl rfl 6 0 rfl rfl) rfl rfl hl.1 rfl (lv_room (Nat.le_of_ble_eq_true rfl)) dX8_find_66 ⟨Nat.zero_le _, Nat.zero_le _⟩) hP hD hS hA [0, 7, 8, 2] rfl rfl (fun _ => (rfl : ([ma 0, ma 7, ma 8, ma 2] : List Nat) = [ma 0, ma 7, ma 8, ma 2])) ?_
      rintro _u9 H locs - hP hD hS
      have hP : va_P g vwCl [(ma 0, .inr (6, [.int (nI (rkm 1 0 2 (fFind σ (nI d9) (nI f9) (nI c9)))), .ref (ma 1), .int (nI ln), .ref (ma 2), .ref (ma 3), .ref (ma 4), .int (nI (hiN n)), .ref (ma 5), .ref (ma 6), .ref (ma 7), .ref (ma 8), .int (nI sp), .int (nI ou)])), aI cy (ma 1) 120 (mS tx), aI cy (ma 2) 248 (mS (findS σ d9 f9 c9)), aI cy (ma 3) 248 (mS tr), aI cy (ma 4) 3472 (mS (remD σ dy n)), aI cy (ma 5) 496 (mS kp), aZ cy (ma 6) 2 (fun j => bI (fl j)), aI cy (ma 7) 144 (mS (D σ)), aI cy (ma 8) 8 (mS (hOf σ d9 f9 c9))] H := hP
      have hD : va_D A [(ma 0, .inr (6, [.int (nI (rkm 1 0 2 (fFind σ (nI d9) (nI f9) (nI c9)))), .ref (ma 1), .int (nI ln), .ref (ma 2), .ref (ma 3), .ref (ma 4), .int (nI (hiN n)), .ref (ma 5), .ref (ma 6), .ref (ma 7), .ref (ma 8), .int (nI sp), .int (nI ou)])), aI cy (ma 1) 120 (mS tx), aI cy (ma 2) 248 (mS (findS σ d9 f9 c9)), aI cy (ma 3) 248 (mS tr), aI cy (ma 4) 3472 (mS (remD σ dy n)), aI cy (ma 5) 496 (mS kp), aZ cy (ma 6) 2 (fun j => bI (fl j)), aI cy (ma 7) 144 (mS (D σ)), aI cy (ma 8) 8 (mS (hOf σ d9 f9 c9))] := hD
      show W _ _ _ _ _ _ _ _ _ _ _ _ _ _ _ (F0 mX 69 ls [.int (nI (shr σ d9 f9 c9 f9))])
      exact wr_i (tr, remD σ dy n, kp, D σ, hOf σ d9 f9 c9, sp, ou, rkm 1 0 2 (fFind σ (nI d9) (nI f9) (nI c9))) (by rw [if_pos c_49]; rw [hs9.2]) ⟨rfl, (by simp only [if_pos c_49]; exact ⟨(WF_findR hwf), (rem_n hn14), (rem_dy hn14 hdy), hkp, htx, hln⟩)⟩ (by simp only [if_pos c_49]; rw [hs9.1]; exact hP) hS hx hb hr dX8_find_69 hlk
    · have c_49 := (bI_ne0.mp c_49)
      have c_49 : ¬ fFind σ vd vf vc = 0 := fun e => by rw [e] at c_49; exact absurd c_49 (by decide)
      refine lv_iconst (v := (nI 0)) hx hb dX8_find_52 (by decide) ?_
      exact wr_i (tr, dy, kp, wy, hp, sp, ou, rkm 1 0 2 (fFind σ vd vf vc)) (by rw [if_neg c_49]) ⟨rfl, (by rw [show findR σ vd vf vc = σ from if_neg c_49]; simp only [if_neg c_49]; exact ⟨hwf, hn14, hdy, hkp, htx, hln⟩)⟩ (by rw [show findR σ vd vf vc = σ from if_neg c_49]; simp only [if_neg c_49]; exact hP) hS hx hb hr dX8_find_53 hlk
  · skip
    refine lv_aload_n hx hb dX8_find_1 rfl (lv_at hl 0 rfl) ?_
    refine va_get (D := g) (ci := 6) (v := .ref (ma 2)) (C := RX8) (T := TX8) (N := 13) hx hb hts bgX8 hown hK hP 0 rfl rfl 3 (by decide) (hts _ wd5_21) (fun _ h9 => h9) rfl dX8_find_2 ?_
    refine lv_iload_n hx hb dX8_find_5 rfl (lv_at hl 1 rfl) ?_
    refine rd_call (va_runS (As := [.ref (ma 2), .int vd]) (rest := [.ref (ma 0)]) ⟨hx, hb, hml, hown, hts⟩ (c_X8_isDog l g cy (ma 2) s.heap.size σ vd (by omega)) ⟨(cB 2 hts wd13_12 wd1_5 wd13_10 rfl rfl (by decide +kernel) ⟨Nat.le_of_ble_eq_true rfl, Nat.le_of_ble_eq_true rfl⟩), hts _ wd13_11⟩ (ps hK hP hD hS hA hX [2] rfl rfl) rfl rfl hl.1 rfl (lv_room (Nat.le_of_ble_eq_true rfl)) dX8_find_6 ⟨Nat.zero_le _, Nat.zero_le _⟩) ?_
    show W _ _ _ _ _ _ _ _ _ _ _ _ _ _ _ (F0 mX 9 ls [.int (bI (hasR (σ 0) vd)), .ref (ma 0)])
    refine lv_if_eq (tgt := 26) hx hb dX8_find_9 (by decide) (fun c_9 => ?_) (fun c_9 => ?_)
    · have c_9 := (bI_eq0.mp c_9)
      refine lv_iconst (v := (nI 1)) hx hb dX8_find_26 (by decide) ?_
      refine lv_goto (tgt := 46) hx hb dX8_find_27 (by decide) ?_
      exact jn46 _ (congrArg nI (by simp [rkm, fFind, fAsk, c_9]))
    · have c_9 := (bI_ne0.mp c_9)
      refine lv_iload_n hx hb dX8_find_12 rfl (lv_at hl 2 rfl) ?_
      refine rd_call (va_runS (As := [.int vf]) (rest := [.ref (ma 0)]) ⟨hx, hb, hml, hown, hts⟩ (c_X8_isFinder l vf ) ⟨(cB 1 hts wd27_3 wd1_5 wd27_1 rfl rfl (by decide +kernel) ⟨Nat.le_of_ble_eq_true rfl, Nat.le_of_ble_eq_true rfl⟩), hts _ wd27_2⟩ p0 rfl rfl hl.1 rfl (lv_room (Nat.le_of_ble_eq_true rfl)) dX8_find_13 ⟨Nat.zero_le _, Nat.zero_le _⟩) ?_
      show W _ _ _ _ _ _ _ _ _ _ _ _ _ _ _ (F0 mX 16 ls [.int (bI (inR vf (nI 0) (nI 7))), .ref (ma 0)])
      refine lv_if_eq (tgt := 26) hx hb dX8_find_16 (by decide) (fun c_16 => ?_) (fun c_16 => ?_)
      · have c_16 := (bI_eq0.mp c_16)
        refine lv_iconst (v := (nI 1)) hx hb dX8_find_26 (by decide) ?_
        refine lv_goto (tgt := 46) hx hb dX8_find_27 (by decide) ?_
        exact jn46 _ (congrArg nI (by simp [rkm, fFind, fAsk, c_9, c_16]))
      · have c_16 := (bI_ne0.mp c_16)
        refine lv_iload_n hx hb dX8_find_19 rfl (lv_at hl 3 rfl) ?_
        refine rd_call (va_runS (As := [.int vc]) (rest := [.ref (ma 0)]) ⟨hx, hb, hml, hown, hts⟩ (c_X8_isCorner l vc ) ⟨(cB 1 hts wd28_15 wd1_5 wd28_13 rfl rfl (by decide +kernel) ⟨Nat.le_of_ble_eq_true rfl, Nat.le_of_ble_eq_true rfl⟩), hts _ wd28_14⟩ p0 rfl rfl hl.1 rfl (lv_room (Nat.le_of_ble_eq_true rfl)) dX8_find_20 ⟨Nat.zero_le _, Nat.zero_le _⟩) ?_
        show W _ _ _ _ _ _ _ _ _ _ _ _ _ _ _ (F0 mX 23 ls [.int (bI (inR vc (nI 0) (nI 11))), .ref (ma 0)])
        refine lv_if_ne (tgt := 30) hx hb dX8_find_23 (by decide) (fun c_23 => ?_) (fun c_23 => ?_)
        · have c_23 := (bI_ne0.mp c_23)
          obtain ⟨d9, hd9, rfl⟩ := hasR_ex (by omega) c_9
          have hdb := hwf.db hd9
          refine lv_aload_n hx hb dX8_find_30 rfl (lv_at hl 0 rfl) ?_
          refine va_get (D := g) (ci := 6) (v := .ref (ma 2)) (C := RX8) (T := TX8) (N := 13) hx hb hts bgX8 hown hK hP 0 rfl rfl 3 (by decide) (hts _ wd5_21) (fun _ h9 => h9) rfl dX8_find_31 ?_
          refine lv_iload_n hx hb dX8_find_34 rfl (lv_at hl 1 rfl) ?_
          refine rd_call (va_runS (As := [.ref (ma 2), .int (nI d9)]) (rest := [.ref (ma 0)]) ⟨hx, hb, hml, hown, hts⟩ (c_X8_isMissing l g cy (ma 2) s.heap.size σ d9 (by omega) (by omega)) ⟨(cB 2 hts wd12_20 wd1_5 wd12_18 rfl rfl (by decide +kernel) ⟨Nat.le_of_ble_eq_true rfl, Nat.le_of_ble_eq_true rfl⟩), hts _ wd12_19⟩ (ps hK hP hD hS hA hX [2] rfl rfl) rfl rfl hl.1 rfl (lv_room (Nat.le_of_ble_eq_true rfl)) dX8_find_35 ⟨Nat.zero_le _, Nat.zero_le _⟩) ?_
          show W _ _ _ _ _ _ _ _ _ _ _ _ _ _ _ (F0 mX 38 ls [.int (bI (msg σ d9)), .ref (ma 0)])
          refine lv_if_eq (tgt := 45) hx hb dX8_find_38 (by decide) (fun c_38 => ?_) (fun c_38 => ?_)
          · have c_38 := (bI_eq0.mp c_38)
            refine lv_iconst (v := (nI 2)) hx hb dX8_find_45 (by decide) ?_
            exact jn46 _ (congrArg nI (by simp [rkm, fFind, fAsk, c_9, c_16, c_23, c_38, nI_clamp (show d9 < 2 ^ 31 by omega)]))
          · have c_38 := (bI_ne0.mp c_38)
            refine lv_iconst (v := (nI 0)) hx hb dX8_find_41 (by decide) ?_
            refine lv_goto (tgt := 46) hx hb dX8_find_42 (by decide) ?_
            exact jn46 _ (congrArg nI (by simp [rkm, fFind, fAsk, c_9, c_16, c_23, c_38, nI_clamp (show d9 < 2 ^ 31 by omega)]))
        · have c_23 := (bI_eq0.mp c_23)
          refine lv_iconst (v := (nI 1)) hx hb dX8_find_26 (by decide) ?_
          refine lv_goto (tgt := 46) hx hb dX8_find_27 (by decide) ?_
          exact jn46 _ (congrArg nI (by simp [rkm, fFind, fAsk, c_9, c_16, c_23]))
set_option maxHeartbeats 4000000 in
set_option maxRecDepth 100000 in
theorem c_X8_close (l : Launch) (g : va_G) (cy : Nat → ClassId) (ma : Nat → Nat) (sz : Nat) (bd : Nat) (q : Mc) (σ : Nat → Nat) (Hh : Nat → Nat → Nat) (n : Nat) (K : Nat → Nat → Nat) (fl : Nat → Bool) (tx : Nat → Nat) (ln : Nat) (va : Int32) (vb : Int32) (on : Bool) (hI : mI bd q σ Hh n K fl tx ln) : Met l yX8_close (Cond.code yX8_close cX8_close 4 (some .int) :: wsL_law) ({ frames := 2, cells := 0, slots := 0, locals := 46 } : Room) (va_Pc [.ref (ma 0), .int va, .int vb, .int (bI on)] (pr g cy (mQ cy ma q σ n fl tx ln) sz)) (wr_Q (fun _ : Mc => (some (.int (nI (if fClose va vb = 0 then closeA σ va vb on else 0))))) (fun q9 : Mc => q9.2.2.2.2.2.2.2 = rkm 1 2 0 (fClose va vb) ∧ mI bd q9 (closeR σ va vb on) (if fClose va vb = 0 then hiH Hh n σ else Hh) (if fClose va vb = 0 then hiN n else n) K fl tx ln) (fun q9 : Mc => mQ cy ma q9 (closeR σ va vb on) (if fClose va vb = 0 then hiN n else n) fl tx ln) g (va_A (mQ cy ma q σ n fl tx ln) sz)) 0 0 (va_A (mQ cy ma q σ n fl tx ln) sz) := by
  obtain ⟨tr, dy, kp, wy, hp, sp, ou, rf⟩ := q
  obtain ⟨hwf, hn14, hdy, hkp, htx, hln⟩ := hI
  have hdy : ∀ k, k < n → ∀ j, j < 248 → dy (248 * k + j) = Hh k j := hdy
  have hkp : ∀ k, k < 2 → fl k = true → ∀ j, j < 248 → kp (248 * k + j) = K k j := hkp
  refine mt_of (cc := cX8_close) (maxL := 4) (ret := (some .int)) (by decide +kernel) (Nat.le_of_ble_eq_true rfl) ?_
  intro pX eX s mX below meth cX ls A hx hb hr hml hown hts hlk hin hsz hAe hA hP hD hK hX hl
  subst hsz
  rw [← hAe]
  clear hAe
  have hP : va_P g vwCl [(ma 0, .inr (6, [.int (nI rf), .ref (ma 1), .int (nI ln), .ref (ma 2), .ref (ma 3), .ref (ma 4), .int (nI n), .ref (ma 5), .ref (ma 6), .ref (ma 7), .ref (ma 8), .int (nI sp), .int (nI ou)])), aI cy (ma 1) 120 (mS tx), aI cy (ma 2) 248 (mS σ), aI cy (ma 3) 248 (mS tr), aI cy (ma 4) 3472 (mS dy), aI cy (ma 5) 496 (mS kp), aZ cy (ma 6) 2 (fun j => bI (fl j)), aI cy (ma 7) 144 (mS wy), aI cy (ma 8) 8 (mS hp)] s.heap := hP
  have hD : va_D A [(ma 0, .inr (6, [.int (nI rf), .ref (ma 1), .int (nI ln), .ref (ma 2), .ref (ma 3), .ref (ma 4), .int (nI n), .ref (ma 5), .ref (ma 6), .ref (ma 7), .ref (ma 8), .int (nI sp), .int (nI ou)])), aI cy (ma 1) 120 (mS tx), aI cy (ma 2) 248 (mS σ), aI cy (ma 3) 248 (mS tr), aI cy (ma 4) 3472 (mS dy), aI cy (ma 5) 496 (mS kp), aZ cy (ma 6) 2 (fun j => bI (fl j)), aI cy (ma 7) 144 (mS wy), aI cy (ma 8) 8 (mS hp)] := hD
  have hl : lv_has ls 4 [(0, .ref (ma 0)), (1, .int va), (2, .int vb), (3, .int (bI on))] := hl
  have hS : va_S A s.heap s.heap [] := va_S.rf
  have hn0 := hwf.n0
  have hn1 := hwf.n1
  have hh2 := hwf.h2
  have hfr : fClose va vb = 0 ∨ 0 < rkm 1 2 0 (fClose va vb) := by unfold fClose rkm; (repeat' split) <;> omega
  have hfl9 : rkm 1 2 0 (fClose va vb) < 10 := by unfold rkm; (repeat' split) <;> omega
  refine lv_aload_n hx hb dX8_close_0 rfl (lv_at hl 0 rfl) ?_
  refine jn_i (pcj := 33) (ls := ls) (st := [.ref (ma 0)]) (fun v9 => v9 = (nI (rkm 1 2 0 (fClose va vb)))) ?_ (fun jn33 => ?_)
  · intro v9 hv9
    subst hv9
    refine wr_call (wc := [(ma 0, .inr (6, [.int (nI rf), .ref (ma 1), .int (nI ln), .ref (ma 2), .ref (ma 3), .ref (ma 4), .int (nI n), .ref (ma 5), .ref (ma 6), .ref (ma 7), .ref (ma 8), .int (nI sp), .int (nI ou)]))]) (va_runV (As := [.int (nI (rkm 1 2 0 (fClose va vb)))]) (rest := []) ⟨hx, hb, hml, hown, hts⟩ (c_X8_refused l g cy (ma 0) (ma 1) (ma 2) (ma 3) (ma 4) (ma 5) (ma 6) (ma 7) (ma 8) s.heap.size rf ln n sp ou (rkm 1 2 0 (fClose va vb)) (by omega)) ⟨(cB 1 hts wd7_21 wd1_5 wd7_18 rfl rfl (by decide +kernel) ⟨Nat.le_of_ble_eq_true rfl, Nat.le_of_ble_eq_true rfl⟩), hts _ wd7_19, hts _ wd7_20⟩ (pv hK hP hD hS hA hX [0] rfl rfl 6 0 rfl rfl) rfl rfl hl.1 rfl (lv_room (Nat.le_of_ble_eq_true rfl)) dX8_close_33 ⟨Nat.zero_le _, Nat.zero_le _⟩) hP hD hS hA [0] rfl rfl (fun _ => (rfl : ([ma 0] : List Nat) = [ma 0])) ?_
    rintro _u9 H locs - hP hD hS
    have hP : va_P g vwCl [(ma 0, .inr (6, [.int (nI (rkm 1 2 0 (fClose va vb))), .ref (ma 1), .int (nI ln), .ref (ma 2), .ref (ma 3), .ref (ma 4), .int (nI n), .ref (ma 5), .ref (ma 6), .ref (ma 7), .ref (ma 8), .int (nI sp), .int (nI ou)])), aI cy (ma 1) 120 (mS tx), aI cy (ma 2) 248 (mS σ), aI cy (ma 3) 248 (mS tr), aI cy (ma 4) 3472 (mS dy), aI cy (ma 5) 496 (mS kp), aZ cy (ma 6) 2 (fun j => bI (fl j)), aI cy (ma 7) 144 (mS wy), aI cy (ma 8) 8 (mS hp)] H := hP
    have hD : va_D A [(ma 0, .inr (6, [.int (nI (rkm 1 2 0 (fClose va vb))), .ref (ma 1), .int (nI ln), .ref (ma 2), .ref (ma 3), .ref (ma 4), .int (nI n), .ref (ma 5), .ref (ma 6), .ref (ma 7), .ref (ma 8), .int (nI sp), .int (nI ou)])), aI cy (ma 1) 120 (mS tx), aI cy (ma 2) 248 (mS σ), aI cy (ma 3) 248 (mS tr), aI cy (ma 4) 3472 (mS dy), aI cy (ma 5) 496 (mS kp), aZ cy (ma 6) 2 (fun j => bI (fl j)), aI cy (ma 7) 144 (mS wy), aI cy (ma 8) 8 (mS hp)] := hD
    show W _ _ _ _ _ _ _ _ _ _ _ _ _ _ _ (F0 mX 36 ls [.int (bI (decide (0 < (rkm 1 2 0 (fClose va vb)))))])
    refine lv_if_eq (tgt := 41) hx hb dX8_close_36 (by decide) (fun c_36 => ?_) (fun c_36 => ?_)
    · have c_36 := (bI_eq0.mp c_36)
      have c_36 : fClose va vb = 0 := hfr.resolve_right (of_decide_eq_false c_36)
      have hcA : fClose va vb = 0 := c_36
      obtain ⟨a9, b9, rfl, rfl, ha9, hb9, hk9⟩ := fClose_0 c_36
      obtain ⟨hspl, hsn⟩ := fClose_k ha9 hb9 hk9
      obtain ⟨k9, hke⟩ : ∃ k9, k9 = sbt a9 b9 17 := ⟨_, rfl⟩
      rw [← hke] at hk9 hspl
      have hs9 : closeR σ (nI a9) (nI b9) on = clS σ k9 on := by unfold closeR; rw [if_pos c_36, nI_clamp (by omega), nI_clamp (by omega), hke]
      have hsA : ∀ _ : Unit, closeA σ (nI a9) (nI b9) on = ct (cmk (clS σ k9 on)).testBit 24 := fun _ => by unfold closeA; rw [if_pos c_36, hs9]
      clear hke
      refine lv_aload_n hx hb dX8_close_41 rfl (lv_at hl 0 rfl) ?_
      refine wr_call (wc := [(ma 0, .inr (6, [.int (nI (rkm 1 2 0 (fClose (nI a9) (nI b9)))), .ref (ma 1), .int (nI ln), .ref (ma 2), .ref (ma 3), .ref (ma 4), .int (nI n), .ref (ma 5), .ref (ma 6), .ref (ma 7), .ref (ma 8), .int (nI sp), .int (nI ou)])), aI cy (ma 2) 248 (mS σ), aI cy (ma 4) 3472 (mS dy)]) (va_runV (As := []) (rest := []) ⟨hx, hb, hml, hown, hts⟩ (c_X8_remember l g cy (ma 0) (ma 1) (ma 2) (ma 3) (ma 4) (ma 5) (ma 6) (ma 7) (ma 8) H.size (rkm 1 2 0 (fClose (nI a9) (nI b9))) ln n sp ou σ dy (by omega)) ⟨(cB 0 hts wd30_21 wd1_5 wd30_18 rfl rfl (by decide +kernel) ⟨Nat.le_of_ble_eq_true rfl, Nat.le_of_ble_eq_true rfl⟩), hts _ wd30_19, hts _ wd30_20⟩ (pv hK hP hD hS hA hX [0, 2, 4] rfl rfl 6 0 rfl rfl) rfl rfl hl.1 rfl (lv_room (Nat.le_of_ble_eq_true rfl)) dX8_close_42 ⟨Nat.zero_le _, Nat.zero_le _⟩) hP hD hS hA [0, 2, 4] rfl rfl (fun _ => (rfl : ([ma 0, ma 2, ma 4] : List Nat) = [ma 0, ma 2, ma 4])) ?_
      rintro _u9 H locs - hP hD hS
      have hP : va_P g vwCl [(ma 0, .inr (6, [.int (nI (rkm 1 2 0 (fClose (nI a9) (nI b9)))), .ref (ma 1), .int (nI ln), .ref (ma 2), .ref (ma 3), .ref (ma 4), .int (nI (hiN n)), .ref (ma 5), .ref (ma 6), .ref (ma 7), .ref (ma 8), .int (nI sp), .int (nI ou)])), aI cy (ma 1) 120 (mS tx), aI cy (ma 2) 248 (mS σ), aI cy (ma 3) 248 (mS tr), aI cy (ma 4) 3472 (mS (remD σ dy n)), aI cy (ma 5) 496 (mS kp), aZ cy (ma 6) 2 (fun j => bI (fl j)), aI cy (ma 7) 144 (mS wy), aI cy (ma 8) 8 (mS hp)] H := hP
      have hD : va_D A [(ma 0, .inr (6, [.int (nI (rkm 1 2 0 (fClose (nI a9) (nI b9)))), .ref (ma 1), .int (nI ln), .ref (ma 2), .ref (ma 3), .ref (ma 4), .int (nI (hiN n)), .ref (ma 5), .ref (ma 6), .ref (ma 7), .ref (ma 8), .int (nI sp), .int (nI ou)])), aI cy (ma 1) 120 (mS tx), aI cy (ma 2) 248 (mS σ), aI cy (ma 3) 248 (mS tr), aI cy (ma 4) 3472 (mS (remD σ dy n)), aI cy (ma 5) 496 (mS kp), aZ cy (ma 6) 2 (fun j => bI (fl j)), aI cy (ma 7) 144 (mS wy), aI cy (ma 8) 8 (mS hp)] := hD
      show W _ _ _ _ _ _ _ _ _ _ _ _ _ _ _ (F0 mX 45 ls [])
      refine lv_aload_n hx hb dX8_close_45 rfl (lv_at hl 0 rfl) ?_
      refine va_get (D := g) (ci := 6) (v := .ref (ma 2)) (C := RX8) (T := TX8) (N := 13) hx hb hts bgX8 hown hK hP 0 rfl rfl 3 (by decide) (hts _ wd5_21) (fun _ h9 => h9) rfl dX8_close_46 ?_
      refine lv_iload_n hx hb dX8_close_49 rfl (lv_at hl 1 rfl) ?_
      refine lv_iload_n hx hb dX8_close_50 rfl (lv_at hl 2 rfl) ?_
      refine lv_iload_n hx hb dX8_close_51 rfl (lv_at hl 3 rfl) ?_
      refine wr_call (wc := [aI cy (ma 2) 248 (mS σ)]) (va_runS (As := [.ref (ma 2), .int (nI a9), .int (nI b9), .int (bI on)]) (rest := []) ⟨hx, hb, hml, hown, hts⟩ (c_X8_closeOn l g cy (ma 2) H.size σ bd a9 b9 k9 on hwf (by omega) (by omega) (by omega) hspl) ⟨(cB 4 hts wd15_9 wd1_5 wd15_7 rfl rfl (by decide +kernel) ⟨Nat.le_of_ble_eq_true rfl, Nat.le_of_ble_eq_true rfl⟩), hts _ wd15_8⟩ (ps hK hP hD hS hA hX [2] rfl rfl) rfl rfl hl.1 rfl (lv_room (Nat.le_of_ble_eq_true rfl)) dX8_close_52 ⟨Nat.zero_le _, Nat.zero_le _⟩) hP hD hS hA [2] rfl rfl (fun _ => (rfl : ([ma 2] : List Nat) = [ma 2])) ?_
      rintro _u9 H locs - hP hD hS
      have hP : va_P g vwCl [(ma 0, .inr (6, [.int (nI (rkm 1 2 0 (fClose (nI a9) (nI b9)))), .ref (ma 1), .int (nI ln), .ref (ma 2), .ref (ma 3), .ref (ma 4), .int (nI (hiN n)), .ref (ma 5), .ref (ma 6), .ref (ma 7), .ref (ma 8), .int (nI sp), .int (nI ou)])), aI cy (ma 1) 120 (mS tx), aI cy (ma 2) 248 (mS (clS σ k9 on)), aI cy (ma 3) 248 (mS tr), aI cy (ma 4) 3472 (mS (remD σ dy n)), aI cy (ma 5) 496 (mS kp), aZ cy (ma 6) 2 (fun j => bI (fl j)), aI cy (ma 7) 144 (mS wy), aI cy (ma 8) 8 (mS hp)] H := hP
      have hD : va_D A [(ma 0, .inr (6, [.int (nI (rkm 1 2 0 (fClose (nI a9) (nI b9)))), .ref (ma 1), .int (nI ln), .ref (ma 2), .ref (ma 3), .ref (ma 4), .int (nI (hiN n)), .ref (ma 5), .ref (ma 6), .ref (ma 7), .ref (ma 8), .int (nI sp), .int (nI ou)])), aI cy (ma 1) 120 (mS tx), aI cy (ma 2) 248 (mS (clS σ k9 on)), aI cy (ma 3) 248 (mS tr), aI cy (ma 4) 3472 (mS (remD σ dy n)), aI cy (ma 5) 496 (mS kp), aZ cy (ma 6) 2 (fun j => bI (fl j)), aI cy (ma 7) 144 (mS wy), aI cy (ma 8) 8 (mS hp)] := hD
      show W _ _ _ _ _ _ _ _ _ _ _ _ _ _ _ (F0 mX 55 ls [.int (nI (ct (cmk (clS σ k9 on)).testBit 24))])
      exact wr_i (tr, remD σ dy n, kp, wy, hp, sp, ou, rkm 1 2 0 (fClose (nI a9) (nI b9))) (by rw [if_pos c_36]; rw [hsA ()]) ⟨rfl, (by simp only [if_pos c_36]; exact ⟨(WF_closeR hwf), (rem_n hn14), (rem_dy hn14 hdy), hkp, htx, hln⟩)⟩ (by simp only [if_pos c_36]; rw [hs9]; exact hP) hS hx hb hr dX8_close_55 hlk
    · have c_36 := (bI_ne0.mp c_36)
      have c_36 : ¬ fClose va vb = 0 := fun e => by rw [e] at c_36; exact absurd c_36 (by decide)
      refine lv_iconst (v := (nI 0)) hx hb dX8_close_39 (by decide) ?_
      exact wr_i (tr, dy, kp, wy, hp, sp, ou, rkm 1 2 0 (fClose va vb)) (by rw [if_neg c_36]) ⟨rfl, (by rw [show closeR σ va vb on = σ from if_neg c_36]; simp only [if_neg c_36]; exact ⟨hwf, hn14, hdy, hkp, htx, hln⟩)⟩ (by rw [show closeR σ va vb on = σ from if_neg c_36]; simp only [if_neg c_36]; exact hP) hS hx hb hr dX8_close_40 hlk
  · skip
    refine lv_iload_n hx hb dX8_close_1 rfl (lv_at hl 1 rfl) ?_
    refine rd_call (va_runS (As := [.int va]) (rest := [.ref (ma 0)]) ⟨hx, hb, hml, hown, hts⟩ (c_X8_isCorner l va ) ⟨(cB 1 hts wd28_15 wd1_5 wd28_13 rfl rfl (by decide +kernel) ⟨Nat.le_of_ble_eq_true rfl, Nat.le_of_ble_eq_true rfl⟩), hts _ wd28_14⟩ p0 rfl rfl hl.1 rfl (lv_room (Nat.le_of_ble_eq_true rfl)) dX8_close_2 ⟨Nat.zero_le _, Nat.zero_le _⟩) ?_
    show W _ _ _ _ _ _ _ _ _ _ _ _ _ _ _ (F0 mX 5 ls [.int (bI (inR va (nI 0) (nI 11))), .ref (ma 0)])
    refine lv_if_eq (tgt := 15) hx hb dX8_close_5 (by decide) (fun c_5 => ?_) (fun c_5 => ?_)
    · have c_5 := (bI_eq0.mp c_5)
      refine lv_iconst (v := (nI 1)) hx hb dX8_close_15 (by decide) ?_
      refine lv_goto (tgt := 33) hx hb dX8_close_16 (by decide) ?_
      exact jn33 _ (congrArg nI (by simp [rkm, fClose, c_5]))
    · have c_5 := (bI_ne0.mp c_5)
      refine lv_iload_n hx hb dX8_close_8 rfl (lv_at hl 2 rfl) ?_
      refine rd_call (va_runS (As := [.int vb]) (rest := [.ref (ma 0)]) ⟨hx, hb, hml, hown, hts⟩ (c_X8_isCorner l vb ) ⟨(cB 1 hts wd28_15 wd1_5 wd28_13 rfl rfl (by decide +kernel) ⟨Nat.le_of_ble_eq_true rfl, Nat.le_of_ble_eq_true rfl⟩), hts _ wd28_14⟩ p0 rfl rfl hl.1 rfl (lv_room (Nat.le_of_ble_eq_true rfl)) dX8_close_9 ⟨Nat.zero_le _, Nat.zero_le _⟩) ?_
      show W _ _ _ _ _ _ _ _ _ _ _ _ _ _ _ (F0 mX 12 ls [.int (bI (inR vb (nI 0) (nI 11))), .ref (ma 0)])
      refine lv_if_ne (tgt := 19) hx hb dX8_close_12 (by decide) (fun c_12 => ?_) (fun c_12 => ?_)
      · have c_12 := (bI_ne0.mp c_12)
        obtain ⟨a9, _, ha9, rfl⟩ := inR_ex (by decide) (by decide) c_5
        obtain ⟨b9, _, hb9, rfl⟩ := inR_ex (by decide) (by decide) c_12
        have hst9 := stp_lt (a := a9) (b := b9) (by omega) (by omega)
        refine lv_iload_n hx hb dX8_close_19 rfl (lv_at hl 1 rfl) ?_
        refine lv_iload_n hx hb dX8_close_20 rfl (lv_at hl 2 rfl) ?_
        refine rd_call (va_runS (As := [.int (nI a9), .int (nI b9)]) (rest := [.ref (ma 0)]) ⟨hx, hb, hml, hown, hts⟩ (c_X8_street l a9 b9 (by omega) (by omega)) ⟨(cB 2 hts wd13_23 wd1_5 wd13_21 rfl rfl (by decide +kernel) ⟨Nat.le_of_ble_eq_true rfl, Nat.le_of_ble_eq_true rfl⟩), hts _ wd13_22⟩ p0 rfl rfl hl.1 rfl (lv_room (Nat.le_of_ble_eq_true rfl)) dX8_close_21 ⟨Nat.zero_le _, Nat.zero_le _⟩) ?_
        show W _ _ _ _ _ _ _ _ _ _ _ _ _ _ _ (F0 mX 24 ls [.int (nI (stp a9 b9)), .ref (ma 0)])
        refine lv_iconst (v := (nI NN)) hx hb dX8_close_24 (by decide) ?_
        refine lv_icmp_ne (tgt := 32) hx hb dX8_close_25 (by decide) (fun c_25 => ?_) (fun c_25 => ?_)
        · have c_25 := (nc_ne9 (by omega) (by decide) c_25)
          refine lv_iconst (v := (nI 0)) hx hb dX8_close_32 (by decide) ?_
          exact jn33 _ (congrArg nI (by simp [rkm, fClose, c_5, c_12, nI_clamp (show a9 < 2 ^ 31 by omega), nI_clamp (show b9 < 2 ^ 31 by omega), sbt_NN (show a9 < 12 by omega) (show b9 < 12 by omega), c_25]))
        · have c_25 := (nc_eq9 (by omega) (by decide) c_25)
          refine lv_iconst (v := (nI 2)) hx hb dX8_close_28 (by decide) ?_
          refine lv_goto (tgt := 33) hx hb dX8_close_29 (by decide) ?_
          exact jn33 _ (congrArg nI (by simp [rkm, fClose, c_5, c_12, nI_clamp (show a9 < 2 ^ 31 by omega), nI_clamp (show b9 < 2 ^ 31 by omega), sbt_NN (show a9 < 12 by omega) (show b9 < 12 by omega), c_25]))
      · have c_12 := (bI_eq0.mp c_12)
        refine lv_iconst (v := (nI 1)) hx hb dX8_close_15 (by decide) ?_
        refine lv_goto (tgt := 33) hx hb dX8_close_16 (by decide) ?_
        exact jn33 _ (congrArg nI (by simp [rkm, fClose, c_5, c_12]))
set_option maxHeartbeats 4000000 in
set_option maxRecDepth 100000 in
theorem c_X8_hours (l : Launch) (g : va_G) (cy : Nat → ClassId) (ma : Nat → Nat) (sz : Nat) (bd : Nat) (q : Mc) (σ : Nat → Nat) (Hh : Nat → Nat → Nat) (n : Nat) (K : Nat → Nat → Nat) (fl : Nat → Bool) (tx : Nat → Nat) (ln : Nat) (vn : Int32) (hI : mI bd q σ Hh n K fl tx ln) (hbd : bd + 99 ≤ 100000) : Met l yX8_hours (Cond.code yX8_hours cX8_hours 2 (some .int) :: wsL_law) ({ frames := 3, cells := 0, slots := 0, locals := 67 } : Room) (va_Pc [.ref (ma 0), .int vn] (pr g cy (mQ cy ma q σ n fl tx ln) sz)) (wr_Q (fun _ : Mc => (some (.int (nI (if fPass vn = 0 then hoursA σ vn else 0))))) (fun q9 : Mc => q9.2.2.2.2.2.2.2 = rkm 0 1 0 (fPass vn) ∧ mI (bd + 99) q9 (hoursR σ vn) (if fPass vn = 0 then hiH Hh n σ else Hh) (if fPass vn = 0 then hiN n else n) K fl tx ln) (fun q9 : Mc => mQ cy ma q9 (hoursR σ vn) (if fPass vn = 0 then hiN n else n) fl tx ln) g (va_A (mQ cy ma q σ n fl tx ln) sz)) 0 0 (va_A (mQ cy ma q σ n fl tx ln) sz) := by
  obtain ⟨tr, dy, kp, wy, hp, sp, ou, rf⟩ := q
  obtain ⟨hwf, hn14, hdy, hkp, htx, hln⟩ := hI
  have hdy : ∀ k, k < n → ∀ j, j < 248 → dy (248 * k + j) = Hh k j := hdy
  have hkp : ∀ k, k < 2 → fl k = true → ∀ j, j < 248 → kp (248 * k + j) = K k j := hkp
  refine mt_of (cc := cX8_hours) (maxL := 2) (ret := (some .int)) (by decide +kernel) (Nat.le_of_ble_eq_true rfl) ?_
  intro pX eX s mX below meth cX ls A hx hb hr hml hown hts hlk hin hsz hAe hA hP hD hK hX hl
  subst hsz
  rw [← hAe]
  clear hAe
  have hP : va_P g vwCl [(ma 0, .inr (6, [.int (nI rf), .ref (ma 1), .int (nI ln), .ref (ma 2), .ref (ma 3), .ref (ma 4), .int (nI n), .ref (ma 5), .ref (ma 6), .ref (ma 7), .ref (ma 8), .int (nI sp), .int (nI ou)])), aI cy (ma 1) 120 (mS tx), aI cy (ma 2) 248 (mS σ), aI cy (ma 3) 248 (mS tr), aI cy (ma 4) 3472 (mS dy), aI cy (ma 5) 496 (mS kp), aZ cy (ma 6) 2 (fun j => bI (fl j)), aI cy (ma 7) 144 (mS wy), aI cy (ma 8) 8 (mS hp)] s.heap := hP
  have hD : va_D A [(ma 0, .inr (6, [.int (nI rf), .ref (ma 1), .int (nI ln), .ref (ma 2), .ref (ma 3), .ref (ma 4), .int (nI n), .ref (ma 5), .ref (ma 6), .ref (ma 7), .ref (ma 8), .int (nI sp), .int (nI ou)])), aI cy (ma 1) 120 (mS tx), aI cy (ma 2) 248 (mS σ), aI cy (ma 3) 248 (mS tr), aI cy (ma 4) 3472 (mS dy), aI cy (ma 5) 496 (mS kp), aZ cy (ma 6) 2 (fun j => bI (fl j)), aI cy (ma 7) 144 (mS wy), aI cy (ma 8) 8 (mS hp)] := hD
  have hl : lv_has ls 2 [(0, .ref (ma 0)), (1, .int vn)] := hl
  have hS : va_S A s.heap s.heap [] := va_S.rf
  have hn0 := hwf.n0
  have hn1 := hwf.n1
  have hh2 := hwf.h2
  have hfr : fPass vn = 0 ∨ 0 < rkm 0 1 0 (fPass vn) := by unfold fPass rkm; (repeat' split) <;> omega
  have hfl9 : rkm 0 1 0 (fPass vn) < 10 := by unfold rkm; (repeat' split) <;> omega
  refine lv_aload_n hx hb dX8_hours_0 rfl (lv_at hl 0 rfl) ?_
  refine jn_i (pcj := 18) (ls := ls) (st := [.ref (ma 0)]) (fun v9 => v9 = (nI (rkm 0 1 0 (fPass vn)))) ?_ (fun jn18 => ?_)
  · intro v9 hv9
    subst hv9
    refine wr_call (wc := [(ma 0, .inr (6, [.int (nI rf), .ref (ma 1), .int (nI ln), .ref (ma 2), .ref (ma 3), .ref (ma 4), .int (nI n), .ref (ma 5), .ref (ma 6), .ref (ma 7), .ref (ma 8), .int (nI sp), .int (nI ou)]))]) (va_runV (As := [.int (nI (rkm 0 1 0 (fPass vn)))]) (rest := []) ⟨hx, hb, hml, hown, hts⟩ (c_X8_refused l g cy (ma 0) (ma 1) (ma 2) (ma 3) (ma 4) (ma 5) (ma 6) (ma 7) (ma 8) s.heap.size rf ln n sp ou (rkm 0 1 0 (fPass vn)) (by omega)) ⟨(cB 1 hts wd7_21 wd1_5 wd7_18 rfl rfl (by decide +kernel) ⟨Nat.le_of_ble_eq_true rfl, Nat.le_of_ble_eq_true rfl⟩), hts _ wd7_19, hts _ wd7_20⟩ (pv hK hP hD hS hA hX [0] rfl rfl 6 0 rfl rfl) rfl rfl hl.1 rfl (lv_room (Nat.le_of_ble_eq_true rfl)) dX8_hours_18 ⟨Nat.zero_le _, Nat.zero_le _⟩) hP hD hS hA [0] rfl rfl (fun _ => (rfl : ([ma 0] : List Nat) = [ma 0])) ?_
    rintro _u9 H locs - hP hD hS
    have hP : va_P g vwCl [(ma 0, .inr (6, [.int (nI (rkm 0 1 0 (fPass vn))), .ref (ma 1), .int (nI ln), .ref (ma 2), .ref (ma 3), .ref (ma 4), .int (nI n), .ref (ma 5), .ref (ma 6), .ref (ma 7), .ref (ma 8), .int (nI sp), .int (nI ou)])), aI cy (ma 1) 120 (mS tx), aI cy (ma 2) 248 (mS σ), aI cy (ma 3) 248 (mS tr), aI cy (ma 4) 3472 (mS dy), aI cy (ma 5) 496 (mS kp), aZ cy (ma 6) 2 (fun j => bI (fl j)), aI cy (ma 7) 144 (mS wy), aI cy (ma 8) 8 (mS hp)] H := hP
    have hD : va_D A [(ma 0, .inr (6, [.int (nI (rkm 0 1 0 (fPass vn))), .ref (ma 1), .int (nI ln), .ref (ma 2), .ref (ma 3), .ref (ma 4), .int (nI n), .ref (ma 5), .ref (ma 6), .ref (ma 7), .ref (ma 8), .int (nI sp), .int (nI ou)])), aI cy (ma 1) 120 (mS tx), aI cy (ma 2) 248 (mS σ), aI cy (ma 3) 248 (mS tr), aI cy (ma 4) 3472 (mS dy), aI cy (ma 5) 496 (mS kp), aZ cy (ma 6) 2 (fun j => bI (fl j)), aI cy (ma 7) 144 (mS wy), aI cy (ma 8) 8 (mS hp)] := hD
    show W _ _ _ _ _ _ _ _ _ _ _ _ _ _ _ (F0 mX 21 ls [.int (bI (decide (0 < (rkm 0 1 0 (fPass vn)))))])
    refine lv_if_eq (tgt := 26) hx hb dX8_hours_21 (by decide) (fun c_21 => ?_) (fun c_21 => ?_)
    · have c_21 := (bI_eq0.mp c_21)
      have c_21 : fPass vn = 0 := hfr.resolve_right (of_decide_eq_false c_21)
      obtain ⟨n9, rfl, hn91, hn92⟩ := fPass_0 c_21
      have hs9 : hoursR σ (nI n9) = hoS σ n9 := by unfold hoursR; rw [if_pos c_21, nI_clamp (by omega)]
      have hsA : hoursA σ (nI n9) = sm (gro σ n9) (σ 0) := by unfold hoursA; rw [if_pos c_21, nI_clamp (by omega)]
      refine lv_aload_n hx hb dX8_hours_26 rfl (lv_at hl 0 rfl) ?_
      refine wr_call (wc := [(ma 0, .inr (6, [.int (nI (rkm 0 1 0 (fPass (nI n9)))), .ref (ma 1), .int (nI ln), .ref (ma 2), .ref (ma 3), .ref (ma 4), .int (nI n), .ref (ma 5), .ref (ma 6), .ref (ma 7), .ref (ma 8), .int (nI sp), .int (nI ou)])), aI cy (ma 2) 248 (mS σ), aI cy (ma 4) 3472 (mS dy)]) (va_runV (As := []) (rest := []) ⟨hx, hb, hml, hown, hts⟩ (c_X8_remember l g cy (ma 0) (ma 1) (ma 2) (ma 3) (ma 4) (ma 5) (ma 6) (ma 7) (ma 8) H.size (rkm 0 1 0 (fPass (nI n9))) ln n sp ou σ dy (by omega)) ⟨(cB 0 hts wd30_21 wd1_5 wd30_18 rfl rfl (by decide +kernel) ⟨Nat.le_of_ble_eq_true rfl, Nat.le_of_ble_eq_true rfl⟩), hts _ wd30_19, hts _ wd30_20⟩ (pv hK hP hD hS hA hX [0, 2, 4] rfl rfl 6 0 rfl rfl) rfl rfl hl.1 rfl (lv_room (Nat.le_of_ble_eq_true rfl)) dX8_hours_27 ⟨Nat.zero_le _, Nat.zero_le _⟩) hP hD hS hA [0, 2, 4] rfl rfl (fun _ => (rfl : ([ma 0, ma 2, ma 4] : List Nat) = [ma 0, ma 2, ma 4])) ?_
      rintro _u9 H locs - hP hD hS
      have hP : va_P g vwCl [(ma 0, .inr (6, [.int (nI (rkm 0 1 0 (fPass (nI n9)))), .ref (ma 1), .int (nI ln), .ref (ma 2), .ref (ma 3), .ref (ma 4), .int (nI (hiN n)), .ref (ma 5), .ref (ma 6), .ref (ma 7), .ref (ma 8), .int (nI sp), .int (nI ou)])), aI cy (ma 1) 120 (mS tx), aI cy (ma 2) 248 (mS σ), aI cy (ma 3) 248 (mS tr), aI cy (ma 4) 3472 (mS (remD σ dy n)), aI cy (ma 5) 496 (mS kp), aZ cy (ma 6) 2 (fun j => bI (fl j)), aI cy (ma 7) 144 (mS wy), aI cy (ma 8) 8 (mS hp)] H := hP
      have hD : va_D A [(ma 0, .inr (6, [.int (nI (rkm 0 1 0 (fPass (nI n9)))), .ref (ma 1), .int (nI ln), .ref (ma 2), .ref (ma 3), .ref (ma 4), .int (nI (hiN n)), .ref (ma 5), .ref (ma 6), .ref (ma 7), .ref (ma 8), .int (nI sp), .int (nI ou)])), aI cy (ma 1) 120 (mS tx), aI cy (ma 2) 248 (mS σ), aI cy (ma 3) 248 (mS tr), aI cy (ma 4) 3472 (mS (remD σ dy n)), aI cy (ma 5) 496 (mS kp), aZ cy (ma 6) 2 (fun j => bI (fl j)), aI cy (ma 7) 144 (mS wy), aI cy (ma 8) 8 (mS hp)] := hD
      show W _ _ _ _ _ _ _ _ _ _ _ _ _ _ _ (F0 mX 30 ls [])
      refine lv_aload_n hx hb dX8_hours_30 rfl (lv_at hl 0 rfl) ?_
      refine va_get (D := g) (ci := 6) (v := .ref (ma 2)) (C := RX8) (T := TX8) (N := 13) hx hb hts bgX8 hown hK hP 0 rfl rfl 3 (by decide) (hts _ wd5_21) (fun _ h9 => h9) rfl dX8_hours_31 ?_
      refine lv_iload_n hx hb dX8_hours_34 rfl (lv_at hl 1 rfl) ?_
      refine wr_call (wc := [aI cy (ma 2) 248 (mS σ)]) (va_runS (As := [.ref (ma 2), .int (nI n9)]) (rest := []) ⟨hx, hb, hml, hown, hts⟩ (c_X8_hoursOn l g cy (ma 2) H.size σ bd n9 hwf (by omega)) ⟨(cB 2 hts wd15_15 wd1_5 wd15_13 rfl rfl (by decide +kernel) ⟨Nat.le_of_ble_eq_true rfl, Nat.le_of_ble_eq_true rfl⟩), hts _ wd15_14⟩ (ps hK hP hD hS hA hX [2] rfl rfl) rfl rfl hl.1 rfl (lv_room (Nat.le_of_ble_eq_true rfl)) dX8_hours_35 ⟨Nat.zero_le _, Nat.zero_le _⟩) hP hD hS hA [2] rfl rfl (fun _ => (rfl : ([ma 2] : List Nat) = [ma 2])) ?_
      rintro _u9 H locs - hP hD hS
      have hP : va_P g vwCl [(ma 0, .inr (6, [.int (nI (rkm 0 1 0 (fPass (nI n9)))), .ref (ma 1), .int (nI ln), .ref (ma 2), .ref (ma 3), .ref (ma 4), .int (nI (hiN n)), .ref (ma 5), .ref (ma 6), .ref (ma 7), .ref (ma 8), .int (nI sp), .int (nI ou)])), aI cy (ma 1) 120 (mS tx), aI cy (ma 2) 248 (mS (hoS σ n9)), aI cy (ma 3) 248 (mS tr), aI cy (ma 4) 3472 (mS (remD σ dy n)), aI cy (ma 5) 496 (mS kp), aZ cy (ma 6) 2 (fun j => bI (fl j)), aI cy (ma 7) 144 (mS wy), aI cy (ma 8) 8 (mS hp)] H := hP
      have hD : va_D A [(ma 0, .inr (6, [.int (nI (rkm 0 1 0 (fPass (nI n9)))), .ref (ma 1), .int (nI ln), .ref (ma 2), .ref (ma 3), .ref (ma 4), .int (nI (hiN n)), .ref (ma 5), .ref (ma 6), .ref (ma 7), .ref (ma 8), .int (nI sp), .int (nI ou)])), aI cy (ma 1) 120 (mS tx), aI cy (ma 2) 248 (mS (hoS σ n9)), aI cy (ma 3) 248 (mS tr), aI cy (ma 4) 3472 (mS (remD σ dy n)), aI cy (ma 5) 496 (mS kp), aZ cy (ma 6) 2 (fun j => bI (fl j)), aI cy (ma 7) 144 (mS wy), aI cy (ma 8) 8 (mS hp)] := hD
      show W _ _ _ _ _ _ _ _ _ _ _ _ _ _ _ (F0 mX 38 ls [.int (nI (sm (gro σ n9) (σ 0)))])
      exact wr_i (tr, remD σ dy n, kp, wy, hp, sp, ou, rkm 0 1 0 (fPass (nI n9))) (by rw [if_pos c_21]; rw [hsA]) ⟨rfl, (by simp only [if_pos c_21]; exact ⟨(WF_hoursR hwf hbd), (rem_n hn14), (rem_dy hn14 hdy), hkp, htx, hln⟩)⟩ (by simp only [if_pos c_21]; rw [hs9]; exact hP) hS hx hb hr dX8_hours_38 hlk
    · have c_21 := (bI_ne0.mp c_21)
      have c_21 : ¬ fPass vn = 0 := fun e => by rw [e] at c_21; exact absurd c_21 (by decide)
      refine lv_iconst (v := (nI 0)) hx hb dX8_hours_24 (by decide) ?_
      exact wr_i (tr, dy, kp, wy, hp, sp, ou, rkm 0 1 0 (fPass vn)) (by rw [if_neg c_21]) ⟨rfl, (by rw [show hoursR σ vn = σ from if_neg c_21]; simp only [if_neg c_21]; exact ⟨(WF_mono hwf (by omega) hbd), hn14, hdy, hkp, htx, hln⟩)⟩ (by rw [show hoursR σ vn = σ from if_neg c_21]; simp only [if_neg c_21]; exact hP) hS hx hb hr dX8_hours_25 hlk
  · skip
    refine lv_iload_n hx hb dX8_hours_1 rfl (lv_at hl 1 rfl) ?_
    refine lv_i2l (v := vn.toInt64) hx hb dX8_hours_2 rfl ?_
    refine lv_lconst (v := 1) hx hb dX8_hours_3 rfl ?_
    refine lv_ldc2 hx hb hown (hts _ wd31_11) dX8_hours_4 ?_
    refine rd_call (va_runS (As := [.long vn.toInt64, .long (1 : Int64), .long (99 : Int64)]) (rest := [.ref (ma 0)]) ⟨hx, hb, hml, hown, hts⟩ (c_X8_in l vn.toInt64 (1 : Int64) (99 : Int64) ) ⟨(cB 3 hts wd7_17 wd1_5 wd7_15 rfl rfl (by decide +kernel) ⟨Nat.le_of_ble_eq_true rfl, Nat.le_of_ble_eq_true rfl⟩), hts _ wd7_16⟩ p0 rfl rfl hl.1 rfl (lv_room (Nat.le_of_ble_eq_true rfl)) dX8_hours_7 ⟨Nat.zero_le _, Nat.zero_le _⟩) ?_
    show W _ _ _ _ _ _ _ _ _ _ _ _ _ _ _ (F0 mX 10 ls [.int (bI (inL vn.toInt64 (1 : Int64) (99 : Int64))), .ref (ma 0)])
    refine ti (show (bI (inL vn.toInt64 (1 : Int64) (99 : Int64))) = (bI (inR vn (nI 1) (nI 99))) from (congrArg bI (inL_c (a := 1) (b := 99) (by decide) (by decide)))) ?_
    refine lv_if_eq (tgt := 17) hx hb dX8_hours_10 (by decide) (fun c_10 => ?_) (fun c_10 => ?_)
    · have c_10 := (bI_eq0.mp c_10)
      refine lv_iconst (v := (nI 1)) hx hb dX8_hours_17 (by decide) ?_
      exact jn18 _ (congrArg nI (by simp [rkm, fPass, c_10]))
    · have c_10 := (bI_ne0.mp c_10)
      refine lv_iconst (v := (nI 0)) hx hb dX8_hours_13 (by decide) ?_
      refine lv_goto (tgt := 18) hx hb dX8_hours_14 (by decide) ?_
      exact jn18 _ (congrArg nI (by simp [rkm, fPass, c_10]))
set_option maxHeartbeats 4000000 in
set_option maxRecDepth 100000 in
theorem c_X8_set (l : Launch) (g : va_G) (cy : Nat → ClassId) (ma : Nat → Nat) (sz : Nat) (bd : Nat) (q : Mc) (σ : Nat → Nat) (Hh : Nat → Nat → Nat) (n : Nat) (K : Nat → Nat → Nat) (fl : Nat → Bool) (tx : Nat → Nat) (ln : Nat) (vw : Int32) (vv : Int32) (hI : mI bd q σ Hh n K fl tx ln) : Met l yX8_set (Cond.code yX8_set cX8_set 3 (some .int) :: wsL_law) ({ frames := 2, cells := 0, slots := 0, locals := 46 } : Room) (va_Pc [.ref (ma 0), .int vw, .int vv] (pr g cy (mQ cy ma q σ n fl tx ln) sz)) (wr_Q (fun _ : Mc => (some (.int (nI (if fSet vw vv = 0 then setA σ vw vv else 0))))) (fun q9 : Mc => q9.2.2.2.2.2.2.2 = rkm 0 1 0 (fSet vw vv) ∧ mI bd q9 (setR σ vw vv) (if fSet vw vv = 0 then hiH Hh n σ else Hh) (if fSet vw vv = 0 then hiN n else n) K fl tx ln) (fun q9 : Mc => mQ cy ma q9 (setR σ vw vv) (if fSet vw vv = 0 then hiN n else n) fl tx ln) g (va_A (mQ cy ma q σ n fl tx ln) sz)) 0 0 (va_A (mQ cy ma q σ n fl tx ln) sz) := by
  obtain ⟨tr, dy, kp, wy, hp, sp, ou, rf⟩ := q
  obtain ⟨hwf, hn14, hdy, hkp, htx, hln⟩ := hI
  have hdy : ∀ k, k < n → ∀ j, j < 248 → dy (248 * k + j) = Hh k j := hdy
  have hkp : ∀ k, k < 2 → fl k = true → ∀ j, j < 248 → kp (248 * k + j) = K k j := hkp
  refine mt_of (cc := cX8_set) (maxL := 3) (ret := (some .int)) (by decide +kernel) (Nat.le_of_ble_eq_true rfl) ?_
  intro pX eX s mX below meth cX ls A hx hb hr hml hown hts hlk hin hsz hAe hA hP hD hK hX hl
  subst hsz
  rw [← hAe]
  clear hAe
  have hP : va_P g vwCl [(ma 0, .inr (6, [.int (nI rf), .ref (ma 1), .int (nI ln), .ref (ma 2), .ref (ma 3), .ref (ma 4), .int (nI n), .ref (ma 5), .ref (ma 6), .ref (ma 7), .ref (ma 8), .int (nI sp), .int (nI ou)])), aI cy (ma 1) 120 (mS tx), aI cy (ma 2) 248 (mS σ), aI cy (ma 3) 248 (mS tr), aI cy (ma 4) 3472 (mS dy), aI cy (ma 5) 496 (mS kp), aZ cy (ma 6) 2 (fun j => bI (fl j)), aI cy (ma 7) 144 (mS wy), aI cy (ma 8) 8 (mS hp)] s.heap := hP
  have hD : va_D A [(ma 0, .inr (6, [.int (nI rf), .ref (ma 1), .int (nI ln), .ref (ma 2), .ref (ma 3), .ref (ma 4), .int (nI n), .ref (ma 5), .ref (ma 6), .ref (ma 7), .ref (ma 8), .int (nI sp), .int (nI ou)])), aI cy (ma 1) 120 (mS tx), aI cy (ma 2) 248 (mS σ), aI cy (ma 3) 248 (mS tr), aI cy (ma 4) 3472 (mS dy), aI cy (ma 5) 496 (mS kp), aZ cy (ma 6) 2 (fun j => bI (fl j)), aI cy (ma 7) 144 (mS wy), aI cy (ma 8) 8 (mS hp)] := hD
  have hl : lv_has ls 3 [(0, .ref (ma 0)), (1, .int vw), (2, .int vv)] := hl
  have hS : va_S A s.heap s.heap [] := va_S.rf
  have hn0 := hwf.n0
  have hn1 := hwf.n1
  have hh2 := hwf.h2
  have hfr : fSet vw vv = 0 ∨ 0 < rkm 0 1 0 (fSet vw vv) := by unfold fSet rkm; (repeat' split) <;> omega
  have hfl9 : rkm 0 1 0 (fSet vw vv) < 10 := by unfold rkm; (repeat' split) <;> omega
  refine lv_aload_n hx hb dX8_set_0 rfl (lv_at hl 0 rfl) ?_
  refine jn_i (pcj := 14) (ls := ls) (st := [.ref (ma 0)]) (fun v9 => v9 = (nI (rkm 0 1 0 (fSet vw vv)))) ?_ (fun jn14 => ?_)
  · intro v9 hv9
    subst hv9
    refine wr_call (wc := [(ma 0, .inr (6, [.int (nI rf), .ref (ma 1), .int (nI ln), .ref (ma 2), .ref (ma 3), .ref (ma 4), .int (nI n), .ref (ma 5), .ref (ma 6), .ref (ma 7), .ref (ma 8), .int (nI sp), .int (nI ou)]))]) (va_runV (As := [.int (nI (rkm 0 1 0 (fSet vw vv)))]) (rest := []) ⟨hx, hb, hml, hown, hts⟩ (c_X8_refused l g cy (ma 0) (ma 1) (ma 2) (ma 3) (ma 4) (ma 5) (ma 6) (ma 7) (ma 8) s.heap.size rf ln n sp ou (rkm 0 1 0 (fSet vw vv)) (by omega)) ⟨(cB 1 hts wd7_21 wd1_5 wd7_18 rfl rfl (by decide +kernel) ⟨Nat.le_of_ble_eq_true rfl, Nat.le_of_ble_eq_true rfl⟩), hts _ wd7_19, hts _ wd7_20⟩ (pv hK hP hD hS hA hX [0] rfl rfl 6 0 rfl rfl) rfl rfl hl.1 rfl (lv_room (Nat.le_of_ble_eq_true rfl)) dX8_set_14 ⟨Nat.zero_le _, Nat.zero_le _⟩) hP hD hS hA [0] rfl rfl (fun _ => (rfl : ([ma 0] : List Nat) = [ma 0])) ?_
    rintro _u9 H locs - hP hD hS
    have hP : va_P g vwCl [(ma 0, .inr (6, [.int (nI (rkm 0 1 0 (fSet vw vv))), .ref (ma 1), .int (nI ln), .ref (ma 2), .ref (ma 3), .ref (ma 4), .int (nI n), .ref (ma 5), .ref (ma 6), .ref (ma 7), .ref (ma 8), .int (nI sp), .int (nI ou)])), aI cy (ma 1) 120 (mS tx), aI cy (ma 2) 248 (mS σ), aI cy (ma 3) 248 (mS tr), aI cy (ma 4) 3472 (mS dy), aI cy (ma 5) 496 (mS kp), aZ cy (ma 6) 2 (fun j => bI (fl j)), aI cy (ma 7) 144 (mS wy), aI cy (ma 8) 8 (mS hp)] H := hP
    have hD : va_D A [(ma 0, .inr (6, [.int (nI (rkm 0 1 0 (fSet vw vv))), .ref (ma 1), .int (nI ln), .ref (ma 2), .ref (ma 3), .ref (ma 4), .int (nI n), .ref (ma 5), .ref (ma 6), .ref (ma 7), .ref (ma 8), .int (nI sp), .int (nI ou)])), aI cy (ma 1) 120 (mS tx), aI cy (ma 2) 248 (mS σ), aI cy (ma 3) 248 (mS tr), aI cy (ma 4) 3472 (mS dy), aI cy (ma 5) 496 (mS kp), aZ cy (ma 6) 2 (fun j => bI (fl j)), aI cy (ma 7) 144 (mS wy), aI cy (ma 8) 8 (mS hp)] := hD
    show W _ _ _ _ _ _ _ _ _ _ _ _ _ _ _ (F0 mX 17 ls [.int (bI (decide (0 < (rkm 0 1 0 (fSet vw vv)))))])
    refine lv_if_eq (tgt := 22) hx hb dX8_set_17 (by decide) (fun c_17 => ?_) (fun c_17 => ?_)
    · have c_17 := (bI_eq0.mp c_17)
      have c_17 : fSet vw vv = 0 := hfr.resolve_right (of_decide_eq_false c_17)
      obtain ⟨v9, rfl, hv9, hw8⟩ := fSet_0 c_17
      obtain ⟨z9, hz9⟩ : ∃ z9 : Bool, z9 = decide (vw = 0) := ⟨_, rfl⟩
      have hw9 : vw = nI (if z9 then 0 else 1) := by rw [hz9]; by_cases q : vw = 0; rw [decide_eq_true q, q]; rfl; rw [decide_eq_false q]; exact (hw8.resolve_left q).1
      have hwz : (vw = 0) ↔ z9 = true := by rw [hz9, decide_eq_true_eq]
      have hs9 : setR σ vw (nI v9) = setS σ z9 v9 := by unfold setR; rw [if_pos c_17, nI_clamp (by omega), hz9]
      have hsA : setA σ vw (nI v9) = σ (6 + if z9 then 0 else 1) := by unfold setA; rw [if_pos c_17]; by_cases q : vw = 0; rw [if_pos q, hwz.mp q]; rfl; rw [if_neg q, if_neg (fun e => q (hwz.mpr e))]
      have hzl : (if z9 then 0 else 1) ≤ 1 := by split <;> omega
      clear hz9
      refine lv_aload_n hx hb dX8_set_22 rfl (lv_at hl 0 rfl) ?_
      refine wr_call (wc := [(ma 0, .inr (6, [.int (nI (rkm 0 1 0 (fSet vw (nI v9)))), .ref (ma 1), .int (nI ln), .ref (ma 2), .ref (ma 3), .ref (ma 4), .int (nI n), .ref (ma 5), .ref (ma 6), .ref (ma 7), .ref (ma 8), .int (nI sp), .int (nI ou)])), aI cy (ma 2) 248 (mS σ), aI cy (ma 4) 3472 (mS dy)]) (va_runV (As := []) (rest := []) ⟨hx, hb, hml, hown, hts⟩ (c_X8_remember l g cy (ma 0) (ma 1) (ma 2) (ma 3) (ma 4) (ma 5) (ma 6) (ma 7) (ma 8) H.size (rkm 0 1 0 (fSet vw (nI v9))) ln n sp ou σ dy (by omega)) ⟨(cB 0 hts wd30_21 wd1_5 wd30_18 rfl rfl (by decide +kernel) ⟨Nat.le_of_ble_eq_true rfl, Nat.le_of_ble_eq_true rfl⟩), hts _ wd30_19, hts _ wd30_20⟩ (pv hK hP hD hS hA hX [0, 2, 4] rfl rfl 6 0 rfl rfl) rfl rfl hl.1 rfl (lv_room (Nat.le_of_ble_eq_true rfl)) dX8_set_23 ⟨Nat.zero_le _, Nat.zero_le _⟩) hP hD hS hA [0, 2, 4] rfl rfl (fun _ => (rfl : ([ma 0, ma 2, ma 4] : List Nat) = [ma 0, ma 2, ma 4])) ?_
      rintro _u9 H locs - hP hD hS
      have hP : va_P g vwCl [(ma 0, .inr (6, [.int (nI (rkm 0 1 0 (fSet vw (nI v9)))), .ref (ma 1), .int (nI ln), .ref (ma 2), .ref (ma 3), .ref (ma 4), .int (nI (hiN n)), .ref (ma 5), .ref (ma 6), .ref (ma 7), .ref (ma 8), .int (nI sp), .int (nI ou)])), aI cy (ma 1) 120 (mS tx), aI cy (ma 2) 248 (mS σ), aI cy (ma 3) 248 (mS tr), aI cy (ma 4) 3472 (mS (remD σ dy n)), aI cy (ma 5) 496 (mS kp), aZ cy (ma 6) 2 (fun j => bI (fl j)), aI cy (ma 7) 144 (mS wy), aI cy (ma 8) 8 (mS hp)] H := hP
      have hD : va_D A [(ma 0, .inr (6, [.int (nI (rkm 0 1 0 (fSet vw (nI v9)))), .ref (ma 1), .int (nI ln), .ref (ma 2), .ref (ma 3), .ref (ma 4), .int (nI (hiN n)), .ref (ma 5), .ref (ma 6), .ref (ma 7), .ref (ma 8), .int (nI sp), .int (nI ou)])), aI cy (ma 1) 120 (mS tx), aI cy (ma 2) 248 (mS σ), aI cy (ma 3) 248 (mS tr), aI cy (ma 4) 3472 (mS (remD σ dy n)), aI cy (ma 5) 496 (mS kp), aZ cy (ma 6) 2 (fun j => bI (fl j)), aI cy (ma 7) 144 (mS wy), aI cy (ma 8) 8 (mS hp)] := hD
      show W _ _ _ _ _ _ _ _ _ _ _ _ _ _ _ (F0 mX 26 ls [])
      refine lv_aload_n hx hb dX8_set_26 rfl (lv_at hl 0 rfl) ?_
      refine va_get (D := g) (ci := 6) (v := .ref (ma 2)) (C := RX8) (T := TX8) (N := 13) hx hb hts bgX8 hown hK hP 0 rfl rfl 3 (by decide) (hts _ wd5_21) (fun _ h9 => h9) rfl dX8_set_27 ?_
      refine lv_iload_n hx hb dX8_set_30 rfl (lv_at hl 1 rfl) ?_
      refine ti (show vw = (nI (if z9 then 0 else 1)) from hw9) ?_
      refine lv_iload_n hx hb dX8_set_31 rfl (lv_at hl 2 rfl) ?_
      refine wr_call (wc := [aI cy (ma 2) 248 (mS σ)]) (va_runS (As := [.ref (ma 2), .int (nI (if z9 then 0 else 1)), .int (nI v9)]) (rest := []) ⟨hx, hb, hml, hown, hts⟩ (c_X8_change l g cy (ma 2) H.size σ (if z9 then 0 else 1) v9 (by omega)) ⟨(cB 3 hts wd34_5 wd1_5 wd34_3 rfl rfl (by decide +kernel) ⟨Nat.le_of_ble_eq_true rfl, Nat.le_of_ble_eq_true rfl⟩), hts _ wd34_4⟩ (ps hK hP hD hS hA hX [2] rfl rfl) rfl rfl hl.1 rfl (lv_room (Nat.le_of_ble_eq_true rfl)) dX8_set_32 ⟨Nat.zero_le _, Nat.zero_le _⟩) hP hD hS hA [2] rfl rfl (fun _ => (rfl : ([ma 2] : List Nat) = [ma 2])) ?_
      rintro _u9 H locs - hP hD hS
      have hP : va_P g vwCl [(ma 0, .inr (6, [.int (nI (rkm 0 1 0 (fSet vw (nI v9)))), .ref (ma 1), .int (nI ln), .ref (ma 2), .ref (ma 3), .ref (ma 4), .int (nI (hiN n)), .ref (ma 5), .ref (ma 6), .ref (ma 7), .ref (ma 8), .int (nI sp), .int (nI ou)])), aI cy (ma 1) 120 (mS tx), aI cy (ma 2) 248 (mS (up σ (6 + (if z9 then 0 else 1)) v9)), aI cy (ma 3) 248 (mS tr), aI cy (ma 4) 3472 (mS (remD σ dy n)), aI cy (ma 5) 496 (mS kp), aZ cy (ma 6) 2 (fun j => bI (fl j)), aI cy (ma 7) 144 (mS wy), aI cy (ma 8) 8 (mS hp)] H := hP
      have hD : va_D A [(ma 0, .inr (6, [.int (nI (rkm 0 1 0 (fSet vw (nI v9)))), .ref (ma 1), .int (nI ln), .ref (ma 2), .ref (ma 3), .ref (ma 4), .int (nI (hiN n)), .ref (ma 5), .ref (ma 6), .ref (ma 7), .ref (ma 8), .int (nI sp), .int (nI ou)])), aI cy (ma 1) 120 (mS tx), aI cy (ma 2) 248 (mS (up σ (6 + (if z9 then 0 else 1)) v9)), aI cy (ma 3) 248 (mS tr), aI cy (ma 4) 3472 (mS (remD σ dy n)), aI cy (ma 5) 496 (mS kp), aZ cy (ma 6) 2 (fun j => bI (fl j)), aI cy (ma 7) 144 (mS wy), aI cy (ma 8) 8 (mS hp)] := hD
      show W _ _ _ _ _ _ _ _ _ _ _ _ _ _ _ (F0 mX 35 ls [.int (nI (σ (6 + (if z9 then 0 else 1))))])
      rw [show (mS (up σ (6 + (if z9 then 0 else 1)) v9)) = (mS (setS σ z9 v9)) from (congrArg mS (setU z9))] at hP hD
      exact wr_i (tr, remD σ dy n, kp, wy, hp, sp, ou, rkm 0 1 0 (fSet vw (nI v9))) (by rw [if_pos c_17]; rw [hsA]) ⟨rfl, (by simp only [if_pos c_17]; exact ⟨(WF_setR hwf), (rem_n hn14), (rem_dy hn14 hdy), hkp, htx, hln⟩)⟩ (by simp only [if_pos c_17]; rw [hs9]; exact hP) hS hx hb hr dX8_set_35 hlk
    · have c_17 := (bI_ne0.mp c_17)
      have c_17 : ¬ fSet vw vv = 0 := fun e => by rw [e] at c_17; exact absurd c_17 (by decide)
      refine lv_iconst (v := (nI 0)) hx hb dX8_set_20 (by decide) ?_
      exact wr_i (tr, dy, kp, wy, hp, sp, ou, rkm 0 1 0 (fSet vw vv)) (by rw [if_neg c_17]) ⟨rfl, (by rw [show setR σ vw vv = σ from if_neg c_17]; simp only [if_neg c_17]; exact ⟨hwf, hn14, hdy, hkp, htx, hln⟩)⟩ (by rw [show setR σ vw vv = σ from if_neg c_17]; simp only [if_neg c_17]; exact hP) hS hx hb hr dX8_set_21 hlk
  · skip
    refine lv_iload_n hx hb dX8_set_1 rfl (lv_at hl 1 rfl) ?_
    refine lv_iload_n hx hb dX8_set_2 rfl (lv_at hl 2 rfl) ?_
    refine rd_call (va_runS (As := [.int vw, .int vv]) (rest := [.ref (ma 0)]) ⟨hx, hb, hml, hown, hts⟩ (c_X8_isSetting l vw vv ) ⟨(cB 2 hts wd34_1 wd1_5 wd33_23 rfl rfl (by decide +kernel) ⟨Nat.le_of_ble_eq_true rfl, Nat.le_of_ble_eq_true rfl⟩), hts _ wd34_0⟩ p0 rfl rfl hl.1 rfl (lv_room (Nat.le_of_ble_eq_true rfl)) dX8_set_3 ⟨Nat.zero_le _, Nat.zero_le _⟩) ?_
    show W _ _ _ _ _ _ _ _ _ _ _ _ _ _ _ (F0 mX 6 ls [.int (bI ((decide (vw = 0) && inR vv (nI 0) (nI 50)) || (decide (vw = nI 1) && inR vv (nI 0) (nI 8)))), .ref (ma 0)])
    refine lv_if_eq (tgt := 13) hx hb dX8_set_6 (by decide) (fun c_6 => ?_) (fun c_6 => ?_)
    · have c_6 := (bI_eq0.mp c_6)
      refine lv_iconst (v := (nI 1)) hx hb dX8_set_13 (by decide) ?_
      exact jn14 _ (congrArg nI (by simp only [fSet, rkm, c_6]; rfl))
    · have c_6 := (bI_ne0.mp c_6)
      refine lv_iconst (v := (nI 0)) hx hb dX8_set_9 (by decide) ?_
      refine lv_goto (tgt := 14) hx hb dX8_set_10 (by decide) ?_
      exact jn14 _ (congrArg nI (by simp only [fSet, rkm, c_6]; rfl))
set_option maxHeartbeats 4000000 in
set_option maxRecDepth 100000 in
theorem c_X8_undo (l : Launch) (g : va_G) (cy : Nat → ClassId) (ma : Nat → Nat) (sz : Nat) (bd : Nat) (q : Mc) (σ : Nat → Nat) (Hh : Nat → Nat → Nat) (n : Nat) (K : Nat → Nat → Nat) (fl : Nat → Bool) (tx : Nat → Nat) (ln : Nat)  (hI : mI bd q σ Hh n K fl tx ln) (hwu : 1 ≤ n → WF bd (Hh (n - 1))) : Met l yX8_undo (Cond.code yX8_undo cX8_undo 1 (some .int) :: wsL_law) ({ frames := 1, cells := 0, slots := 0, locals := 24 } : Room) (va_Pc [.ref (ma 0)] (pr g cy (mQ cy ma q σ n fl tx ln) sz)) (wr_Q (fun _ : Mc => (some (.int (nI (if fUnd n = 0 then n - 1 else 0))))) (fun q9 : Mc => q9.2.2.2.2.2.2.2 = rkm 0 0 1 (fUnd n) ∧ mI bd q9 (if fUnd n = 0 then Hh (n - 1) else σ) Hh (if fUnd n = 0 then n - 1 else n) K fl tx ln) (fun q9 : Mc => mQ cy ma q9 (if fUnd n = 0 then Hh (n - 1) else σ) (if fUnd n = 0 then n - 1 else n) fl tx ln) g (va_A (mQ cy ma q σ n fl tx ln) sz)) 0 0 (va_A (mQ cy ma q σ n fl tx ln) sz) := by
  obtain ⟨tr, dy, kp, wy, hp, sp, ou, rf⟩ := q
  obtain ⟨hwf, hn14, hdy, hkp, htx, hln⟩ := hI
  have hdy : ∀ k, k < n → ∀ j, j < 248 → dy (248 * k + j) = Hh k j := hdy
  have hkp : ∀ k, k < 2 → fl k = true → ∀ j, j < 248 → kp (248 * k + j) = K k j := hkp
  refine mt_of (cc := cX8_undo) (maxL := 1) (ret := (some .int)) (by decide +kernel) (Nat.le_of_ble_eq_true rfl) ?_
  intro pX eX s mX below meth cX ls A hx hb hr hml hown hts hlk hin hsz hAe hA hP hD hK hX hl
  subst hsz
  rw [← hAe]
  clear hAe
  have hP : va_P g vwCl [(ma 0, .inr (6, [.int (nI rf), .ref (ma 1), .int (nI ln), .ref (ma 2), .ref (ma 3), .ref (ma 4), .int (nI n), .ref (ma 5), .ref (ma 6), .ref (ma 7), .ref (ma 8), .int (nI sp), .int (nI ou)])), aI cy (ma 1) 120 (mS tx), aI cy (ma 2) 248 (mS σ), aI cy (ma 3) 248 (mS tr), aI cy (ma 4) 3472 (mS dy), aI cy (ma 5) 496 (mS kp), aZ cy (ma 6) 2 (fun j => bI (fl j)), aI cy (ma 7) 144 (mS wy), aI cy (ma 8) 8 (mS hp)] s.heap := hP
  have hD : va_D A [(ma 0, .inr (6, [.int (nI rf), .ref (ma 1), .int (nI ln), .ref (ma 2), .ref (ma 3), .ref (ma 4), .int (nI n), .ref (ma 5), .ref (ma 6), .ref (ma 7), .ref (ma 8), .int (nI sp), .int (nI ou)])), aI cy (ma 1) 120 (mS tx), aI cy (ma 2) 248 (mS σ), aI cy (ma 3) 248 (mS tr), aI cy (ma 4) 3472 (mS dy), aI cy (ma 5) 496 (mS kp), aZ cy (ma 6) 2 (fun j => bI (fl j)), aI cy (ma 7) 144 (mS wy), aI cy (ma 8) 8 (mS hp)] := hD
  have hl : lv_has ls 1 [(0, .ref (ma 0))] := hl
  have hS : va_S A s.heap s.heap [] := va_S.rf
  have hn0 := hwf.n0
  have hn1 := hwf.n1
  have hh2 := hwf.h2
  have hfr : fUnd n = 0 ∨ 0 < rkm 0 0 1 (fUnd n) := by unfold fUnd rkm; (repeat' split) <;> omega
  have hfl9 : rkm 0 0 1 (fUnd n) < 10 := by unfold rkm; (repeat' split) <;> omega
  refine lv_aload_n hx hb dX8_undo_0 rfl (lv_at hl 0 rfl) ?_
  refine jn_i (pcj := 13) (ls := ls) (st := [.ref (ma 0)]) (fun v9 => v9 = (nI (rkm 0 0 1 (fUnd n)))) ?_ (fun jn13 => ?_)
  · intro v9 hv9
    subst hv9
    refine wr_call (wc := [(ma 0, .inr (6, [.int (nI rf), .ref (ma 1), .int (nI ln), .ref (ma 2), .ref (ma 3), .ref (ma 4), .int (nI n), .ref (ma 5), .ref (ma 6), .ref (ma 7), .ref (ma 8), .int (nI sp), .int (nI ou)]))]) (va_runV (As := [.int (nI (rkm 0 0 1 (fUnd n)))]) (rest := []) ⟨hx, hb, hml, hown, hts⟩ (c_X8_refused l g cy (ma 0) (ma 1) (ma 2) (ma 3) (ma 4) (ma 5) (ma 6) (ma 7) (ma 8) s.heap.size rf ln n sp ou (rkm 0 0 1 (fUnd n)) (by omega)) ⟨(cB 1 hts wd7_21 wd1_5 wd7_18 rfl rfl (by decide +kernel) ⟨Nat.le_of_ble_eq_true rfl, Nat.le_of_ble_eq_true rfl⟩), hts _ wd7_19, hts _ wd7_20⟩ (pv hK hP hD hS hA hX [0] rfl rfl 6 0 rfl rfl) rfl rfl hl.1 rfl (lv_room (Nat.le_of_ble_eq_true rfl)) dX8_undo_13 ⟨Nat.zero_le _, Nat.zero_le _⟩) hP hD hS hA [0] rfl rfl (fun _ => (rfl : ([ma 0] : List Nat) = [ma 0])) ?_
    rintro _u9 H locs - hP hD hS
    have hP : va_P g vwCl [(ma 0, .inr (6, [.int (nI (rkm 0 0 1 (fUnd n))), .ref (ma 1), .int (nI ln), .ref (ma 2), .ref (ma 3), .ref (ma 4), .int (nI n), .ref (ma 5), .ref (ma 6), .ref (ma 7), .ref (ma 8), .int (nI sp), .int (nI ou)])), aI cy (ma 1) 120 (mS tx), aI cy (ma 2) 248 (mS σ), aI cy (ma 3) 248 (mS tr), aI cy (ma 4) 3472 (mS dy), aI cy (ma 5) 496 (mS kp), aZ cy (ma 6) 2 (fun j => bI (fl j)), aI cy (ma 7) 144 (mS wy), aI cy (ma 8) 8 (mS hp)] H := hP
    have hD : va_D A [(ma 0, .inr (6, [.int (nI (rkm 0 0 1 (fUnd n))), .ref (ma 1), .int (nI ln), .ref (ma 2), .ref (ma 3), .ref (ma 4), .int (nI n), .ref (ma 5), .ref (ma 6), .ref (ma 7), .ref (ma 8), .int (nI sp), .int (nI ou)])), aI cy (ma 1) 120 (mS tx), aI cy (ma 2) 248 (mS σ), aI cy (ma 3) 248 (mS tr), aI cy (ma 4) 3472 (mS dy), aI cy (ma 5) 496 (mS kp), aZ cy (ma 6) 2 (fun j => bI (fl j)), aI cy (ma 7) 144 (mS wy), aI cy (ma 8) 8 (mS hp)] := hD
    show W _ _ _ _ _ _ _ _ _ _ _ _ _ _ _ (F0 mX 16 ls [.int (bI (decide (0 < (rkm 0 0 1 (fUnd n)))))])
    refine lv_if_eq (tgt := 21) hx hb dX8_undo_16 (by decide) (fun c_16 => ?_) (fun c_16 => ?_)
    · have c_16 := (bI_eq0.mp c_16)
      have c_16 : fUnd n = 0 := hfr.resolve_right (of_decide_eq_false c_16)
      have hne9 : ¬ n = 0 := fun e => by rw [e] at c_16; exact absurd c_16 (by decide)
      refine lv_aload_n hx hb dX8_undo_21 rfl (lv_at hl 0 rfl) ?_
      refine lv_dup hx hb dX8_undo_22 rfl ?_
      refine va_get (D := g) (ci := 6) (v := .int (nI n)) (C := RX8) (T := TX8) (N := 13) hx hb hts bgX8 hown hK hP 0 rfl rfl 6 (by decide) (hts _ wd23_0) (fun _ h9 => h9) rfl dX8_undo_23 ?_
      refine lv_iconst (v := (nI 1)) hx hb dX8_undo_26 (by decide) ?_
      refine lv_isub hx hb dX8_undo_27 ?_
      refine ti (show ((nI n) - (nI 1)) = (nI (n - 1)) from (pk_sub (by omega))) ?_
      refine va_put (D := g) (ci := 6) (v := .int (nI (n - 1))) (ty := .int) (C := RX8) (T := TX8) (N := 13) hx hb hts bgX8 tyX8 tyX8_ok nmX8 hown hK hP hD hS 0 rfl rfl 6 (by decide) (hts _ wd23_0) (fun _ h9 => h9) rfl (by decide +kernel) rfl rfl (Nat.le_of_ble_eq_true rfl) dX8_undo_28 (fun H locs hP hD hS => ?_)
      have hP : va_P g vwCl [(ma 0, .inr (6, [.int (nI (rkm 0 0 1 (fUnd n))), .ref (ma 1), .int (nI ln), .ref (ma 2), .ref (ma 3), .ref (ma 4), .int (nI (n - 1)), .ref (ma 5), .ref (ma 6), .ref (ma 7), .ref (ma 8), .int (nI sp), .int (nI ou)])), aI cy (ma 1) 120 (mS tx), aI cy (ma 2) 248 (mS σ), aI cy (ma 3) 248 (mS tr), aI cy (ma 4) 3472 (mS dy), aI cy (ma 5) 496 (mS kp), aZ cy (ma 6) 2 (fun j => bI (fl j)), aI cy (ma 7) 144 (mS wy), aI cy (ma 8) 8 (mS hp)] H := hP
      have hD : va_D A [(ma 0, .inr (6, [.int (nI (rkm 0 0 1 (fUnd n))), .ref (ma 1), .int (nI ln), .ref (ma 2), .ref (ma 3), .ref (ma 4), .int (nI (n - 1)), .ref (ma 5), .ref (ma 6), .ref (ma 7), .ref (ma 8), .int (nI sp), .int (nI ou)])), aI cy (ma 1) 120 (mS tx), aI cy (ma 2) 248 (mS σ), aI cy (ma 3) 248 (mS tr), aI cy (ma 4) 3472 (mS dy), aI cy (ma 5) 496 (mS kp), aZ cy (ma 6) 2 (fun j => bI (fl j)), aI cy (ma 7) 144 (mS wy), aI cy (ma 8) 8 (mS hp)] := hD
      refine lv_aload_n hx hb dX8_undo_31 rfl (lv_at hl 0 rfl) ?_
      refine va_get (D := g) (ci := 6) (v := .ref (ma 4)) (C := RX8) (T := TX8) (N := 13) hx hb hts bgX8 hown hK hP 0 rfl rfl 5 (by decide) (hts _ wd5_23) (fun _ h9 => h9) rfl dX8_undo_32 ?_
      refine lv_sipush (v := (nI 248)) hx hb dX8_undo_35 (by decide) ?_
      refine lv_aload_n hx hb dX8_undo_38 rfl (lv_at hl 0 rfl) ?_
      refine va_get (D := g) (ci := 6) (v := .int (nI (n - 1))) (C := RX8) (T := TX8) (N := 13) hx hb hts bgX8 hown hK hP 0 rfl rfl 6 (by decide) (hts _ wd23_0) (fun _ h9 => h9) rfl dX8_undo_39 ?_
      refine lv_imul hx hb dX8_undo_42 ?_
      refine ti (pk_mul 248 (n - 1)) ?_
      refine lv_aload_n hx hb dX8_undo_43 rfl (lv_at hl 0 rfl) ?_
      refine va_get (D := g) (ci := 6) (v := .ref (ma 2)) (C := RX8) (T := TX8) (N := 13) hx hb hts bgX8 hown hK hP 0 rfl rfl 3 (by decide) (hts _ wd5_21) (fun _ h9 => h9) rfl dX8_undo_44 ?_
      refine lv_iconst (v := (nI 0)) hx hb dX8_undo_47 (by decide) ?_
      refine wr_call (wc := [aI cy (ma 4) 3472 (mS dy), aI cy (ma 2) 248 (mS σ)]) (va_runS (As := [.ref (ma 4), .int (nI (248 * (n - 1))), .ref (ma 2), .int (nI 0)]) (rest := []) ⟨hx, hb, hml, hown, hts⟩ (c_X8_copyState l g cy (ma 4) (ma 2) H.size 3472 248 dy σ (248 * (n - 1)) 0 (by omega) (by omega) (by omega) (by omega)) ⟨(cB 4 hts wd23_3 wd1_5 wd23_1 rfl rfl (by decide +kernel) ⟨Nat.le_of_ble_eq_true rfl, Nat.le_of_ble_eq_true rfl⟩), hts _ wd23_2⟩ (ps hK hP hD hS hA hX [4, 2] rfl rfl) rfl rfl hl.1 rfl (lv_room (Nat.le_of_ble_eq_true rfl)) dX8_undo_48 ⟨Nat.zero_le _, Nat.zero_le _⟩) hP hD hS hA [4, 2] rfl rfl (fun _ => (rfl : ([ma 4, ma 2] : List Nat) = [ma 4, ma 2])) ?_
      rintro _u9 H locs - hP hD hS
      have hP : va_P g vwCl [(ma 0, .inr (6, [.int (nI (rkm 0 0 1 (fUnd n))), .ref (ma 1), .int (nI ln), .ref (ma 2), .ref (ma 3), .ref (ma 4), .int (nI (n - 1)), .ref (ma 5), .ref (ma 6), .ref (ma 7), .ref (ma 8), .int (nI sp), .int (nI ou)])), aI cy (ma 1) 120 (mS tx), aI cy (ma 2) 248 (mS (cpS dy σ (248 * (n - 1)) 0 248)), aI cy (ma 3) 248 (mS tr), aI cy (ma 4) 3472 (mS dy), aI cy (ma 5) 496 (mS kp), aZ cy (ma 6) 2 (fun j => bI (fl j)), aI cy (ma 7) 144 (mS wy), aI cy (ma 8) 8 (mS hp)] H := hP
      have hD : va_D A [(ma 0, .inr (6, [.int (nI (rkm 0 0 1 (fUnd n))), .ref (ma 1), .int (nI ln), .ref (ma 2), .ref (ma 3), .ref (ma 4), .int (nI (n - 1)), .ref (ma 5), .ref (ma 6), .ref (ma 7), .ref (ma 8), .int (nI sp), .int (nI ou)])), aI cy (ma 1) 120 (mS tx), aI cy (ma 2) 248 (mS (cpS dy σ (248 * (n - 1)) 0 248)), aI cy (ma 3) 248 (mS tr), aI cy (ma 4) 3472 (mS dy), aI cy (ma 5) 496 (mS kp), aZ cy (ma 6) 2 (fun j => bI (fl j)), aI cy (ma 7) 144 (mS wy), aI cy (ma 8) 8 (mS hp)] := hD
      show W _ _ _ _ _ _ _ _ _ _ _ _ _ _ _ (F0 mX 51 ls [])
      obtain ⟨hP, hD⟩ := arr_c (mS (Hh (n - 1))) hP hD 2 rfl (fun j hj => cp_st (hdy (n - 1) (by omega)) hj)
      have hP : va_P g vwCl [(ma 0, .inr (6, [.int (nI (rkm 0 0 1 (fUnd n))), .ref (ma 1), .int (nI ln), .ref (ma 2), .ref (ma 3), .ref (ma 4), .int (nI (n - 1)), .ref (ma 5), .ref (ma 6), .ref (ma 7), .ref (ma 8), .int (nI sp), .int (nI ou)])), aI cy (ma 1) 120 (mS tx), aI cy (ma 2) 248 (mS (Hh (n - 1))), aI cy (ma 3) 248 (mS tr), aI cy (ma 4) 3472 (mS dy), aI cy (ma 5) 496 (mS kp), aZ cy (ma 6) 2 (fun j => bI (fl j)), aI cy (ma 7) 144 (mS wy), aI cy (ma 8) 8 (mS hp)] H := hP
      have hD : va_D A [(ma 0, .inr (6, [.int (nI (rkm 0 0 1 (fUnd n))), .ref (ma 1), .int (nI ln), .ref (ma 2), .ref (ma 3), .ref (ma 4), .int (nI (n - 1)), .ref (ma 5), .ref (ma 6), .ref (ma 7), .ref (ma 8), .int (nI sp), .int (nI ou)])), aI cy (ma 1) 120 (mS tx), aI cy (ma 2) 248 (mS (Hh (n - 1))), aI cy (ma 3) 248 (mS tr), aI cy (ma 4) 3472 (mS dy), aI cy (ma 5) 496 (mS kp), aZ cy (ma 6) 2 (fun j => bI (fl j)), aI cy (ma 7) 144 (mS wy), aI cy (ma 8) 8 (mS hp)] := hD
      refine lv_aload_n hx hb dX8_undo_51 rfl (lv_at hl 0 rfl) ?_
      refine va_get (D := g) (ci := 6) (v := .int (nI (n - 1))) (C := RX8) (T := TX8) (N := 13) hx hb hts bgX8 hown hK hP 0 rfl rfl 6 (by decide) (hts _ wd23_0) (fun _ h9 => h9) rfl dX8_undo_52 ?_
      exact wr_i (tr, dy, kp, wy, hp, sp, ou, rkm 0 0 1 (fUnd n)) (by rw [if_pos c_16]) ⟨rfl, (by simp only [if_pos c_16]; exact ⟨(hwu (by omega)), (by omega), (fun k hk => hdy k (by omega)), hkp, htx, hln⟩)⟩ (by simp only [if_pos c_16]; exact hP) hS hx hb hr dX8_undo_55 hlk
    · have c_16 := (bI_ne0.mp c_16)
      have c_16 : ¬ fUnd n = 0 := fun e => by rw [e] at c_16; exact absurd c_16 (by decide)
      refine lv_iconst (v := (nI 0)) hx hb dX8_undo_19 (by decide) ?_
      exact wr_i (tr, dy, kp, wy, hp, sp, ou, rkm 0 0 1 (fUnd n)) (by rw [if_neg c_16]) ⟨rfl, (by simp only [if_neg c_16]; exact ⟨hwf, hn14, hdy, hkp, htx, hln⟩)⟩ (by simp only [if_neg c_16]; exact hP) hS hx hb hr dX8_undo_20 hlk
  · skip
    refine lv_aload_n hx hb dX8_undo_1 rfl (lv_at hl 0 rfl) ?_
    refine va_get (D := g) (ci := 6) (v := .int (nI n)) (C := RX8) (T := TX8) (N := 13) hx hb hts bgX8 hown hK hP 0 rfl rfl 6 (by decide) (hts _ wd23_0) (fun _ h9 => h9) rfl dX8_undo_2 ?_
    refine lv_if_ne (tgt := 12) hx hb dX8_undo_5 (by decide) (fun c_5 => ?_) (fun c_5 => ?_)
    · have c_5 := (nz_ne c_5 (by omega))
      refine lv_iconst (v := (nI 0)) hx hb dX8_undo_12 (by decide) ?_
      exact jn13 _ (congrArg nI (by simp [rkm, fUnd, c_5]))
    · have c_5 := (nz_eq c_5 (by omega))
      refine lv_iconst (v := (nI 1)) hx hb dX8_undo_8 (by decide) ?_
      refine lv_goto (tgt := 13) hx hb dX8_undo_9 (by decide) ?_
      exact jn13 _ (congrArg nI (by simp [rkm, fUnd, c_5]))
set_option maxHeartbeats 4000000 in
set_option maxRecDepth 100000 in
theorem c_X8_ifFound (l : Launch) (g : va_G) (cy : Nat → ClassId) (ma : Nat → Nat) (sz : Nat) (bd : Nat) (q : Mc) (σ : Nat → Nat) (Hh : Nat → Nat → Nat) (n : Nat) (K : Nat → Nat → Nat) (fl : Nat → Bool) (tx : Nat → Nat) (ln : Nat) (vd : Int32) (vf : Int32) (vc : Int32) (vo : Int32) (hI : mI bd q σ Hh n K fl tx ln) : Met l yX8_ifFound (Cond.code yX8_ifFound cX8_ifFound 6 (some .int) :: wsL_law) ({ frames := 5, cells := 0, slots := 0, locals := 119 } : Room) (va_Pc [.ref (ma 0), .int vd, .int vf, .int vc, .int vo] (pr g cy (mQ cy ma q σ n fl tx ln) sz)) (wr_Q (fun _ : Mc => (some (.int (nI (if fIff σ vd vf vc vo = 0 then shr σ vd.toNatClampNeg vf.toNatClampNeg vc.toNatClampNeg vo.toNatClampNeg else 0))))) (fun q9 : Mc => q9.2.2.2.2.2.2.2 = rkm 1 0 2 (fIff σ vd vf vc vo) ∧ mI bd q9 σ Hh n K fl tx ln) (fun q9 : Mc => mQ cy ma q9 σ n fl tx ln) g (va_A (mQ cy ma q σ n fl tx ln) sz)) 0 0 (va_A (mQ cy ma q σ n fl tx ln) sz) := by
  obtain ⟨tr, dy, kp, wy, hp, sp, ou, rf⟩ := q
  obtain ⟨hwf, hn14, hdy, hkp, htx, hln⟩ := hI
  have hdy : ∀ k, k < n → ∀ j, j < 248 → dy (248 * k + j) = Hh k j := hdy
  have hkp : ∀ k, k < 2 → fl k = true → ∀ j, j < 248 → kp (248 * k + j) = K k j := hkp
  refine mt_of (cc := cX8_ifFound) (maxL := 6) (ret := (some .int)) (by decide +kernel) (Nat.le_of_ble_eq_true rfl) ?_
  intro pX eX s mX below meth cX ls A hx hb hr hml hown hts hlk hin hsz hAe hA hP hD hK hX hl
  subst hsz
  rw [← hAe]
  clear hAe
  have hP : va_P g vwCl [(ma 0, .inr (6, [.int (nI rf), .ref (ma 1), .int (nI ln), .ref (ma 2), .ref (ma 3), .ref (ma 4), .int (nI n), .ref (ma 5), .ref (ma 6), .ref (ma 7), .ref (ma 8), .int (nI sp), .int (nI ou)])), aI cy (ma 1) 120 (mS tx), aI cy (ma 2) 248 (mS σ), aI cy (ma 3) 248 (mS tr), aI cy (ma 4) 3472 (mS dy), aI cy (ma 5) 496 (mS kp), aZ cy (ma 6) 2 (fun j => bI (fl j)), aI cy (ma 7) 144 (mS wy), aI cy (ma 8) 8 (mS hp)] s.heap := hP
  have hD : va_D A [(ma 0, .inr (6, [.int (nI rf), .ref (ma 1), .int (nI ln), .ref (ma 2), .ref (ma 3), .ref (ma 4), .int (nI n), .ref (ma 5), .ref (ma 6), .ref (ma 7), .ref (ma 8), .int (nI sp), .int (nI ou)])), aI cy (ma 1) 120 (mS tx), aI cy (ma 2) 248 (mS σ), aI cy (ma 3) 248 (mS tr), aI cy (ma 4) 3472 (mS dy), aI cy (ma 5) 496 (mS kp), aZ cy (ma 6) 2 (fun j => bI (fl j)), aI cy (ma 7) 144 (mS wy), aI cy (ma 8) 8 (mS hp)] := hD
  have hl : lv_has ls 6 [(0, .ref (ma 0)), (1, .int vd), (2, .int vf), (3, .int vc), (4, .int vo)] := hl
  have hS : va_S A s.heap s.heap [] := va_S.rf
  have hn0 := hwf.n0
  have hn1 := hwf.n1
  have hh2 := hwf.h2
  have hfr : fIff σ vd vf vc vo = 0 ∨ 0 < rkm 1 0 2 (fIff σ vd vf vc vo) := by unfold fIff fFind fAsk rkm; (repeat' split) <;> omega
  have hfl9 : rkm 1 0 2 (fIff σ vd vf vc vo) < 10 := by unfold rkm; (repeat' split) <;> omega
  refine lv_aload_n hx hb dX8_ifFound_0 rfl (lv_at hl 0 rfl) ?_
  refine jn_i (pcj := 54) (ls := ls) (st := [.ref (ma 0)]) (fun v9 => v9 = (nI (rkm 1 0 2 (fIff σ vd vf vc vo)))) ?_ (fun jn54 => ?_)
  · intro v9 hv9
    subst hv9
    refine wr_call (wc := [(ma 0, .inr (6, [.int (nI rf), .ref (ma 1), .int (nI ln), .ref (ma 2), .ref (ma 3), .ref (ma 4), .int (nI n), .ref (ma 5), .ref (ma 6), .ref (ma 7), .ref (ma 8), .int (nI sp), .int (nI ou)]))]) (va_runV (As := [.int (nI (rkm 1 0 2 (fIff σ vd vf vc vo)))]) (rest := []) ⟨hx, hb, hml, hown, hts⟩ (c_X8_refused l g cy (ma 0) (ma 1) (ma 2) (ma 3) (ma 4) (ma 5) (ma 6) (ma 7) (ma 8) s.heap.size rf ln n sp ou (rkm 1 0 2 (fIff σ vd vf vc vo)) (by omega)) ⟨(cB 1 hts wd7_21 wd1_5 wd7_18 rfl rfl (by decide +kernel) ⟨Nat.le_of_ble_eq_true rfl, Nat.le_of_ble_eq_true rfl⟩), hts _ wd7_19, hts _ wd7_20⟩ (pv hK hP hD hS hA hX [0] rfl rfl 6 0 rfl rfl) rfl rfl hl.1 rfl (lv_room (Nat.le_of_ble_eq_true rfl)) dX8_ifFound_54 ⟨Nat.zero_le _, Nat.zero_le _⟩) hP hD hS hA [0] rfl rfl (fun _ => (rfl : ([ma 0] : List Nat) = [ma 0])) ?_
    rintro _u9 H locs - hP hD hS
    have hP : va_P g vwCl [(ma 0, .inr (6, [.int (nI (rkm 1 0 2 (fIff σ vd vf vc vo))), .ref (ma 1), .int (nI ln), .ref (ma 2), .ref (ma 3), .ref (ma 4), .int (nI n), .ref (ma 5), .ref (ma 6), .ref (ma 7), .ref (ma 8), .int (nI sp), .int (nI ou)])), aI cy (ma 1) 120 (mS tx), aI cy (ma 2) 248 (mS σ), aI cy (ma 3) 248 (mS tr), aI cy (ma 4) 3472 (mS dy), aI cy (ma 5) 496 (mS kp), aZ cy (ma 6) 2 (fun j => bI (fl j)), aI cy (ma 7) 144 (mS wy), aI cy (ma 8) 8 (mS hp)] H := hP
    have hD : va_D A [(ma 0, .inr (6, [.int (nI (rkm 1 0 2 (fIff σ vd vf vc vo))), .ref (ma 1), .int (nI ln), .ref (ma 2), .ref (ma 3), .ref (ma 4), .int (nI n), .ref (ma 5), .ref (ma 6), .ref (ma 7), .ref (ma 8), .int (nI sp), .int (nI ou)])), aI cy (ma 1) 120 (mS tx), aI cy (ma 2) 248 (mS σ), aI cy (ma 3) 248 (mS tr), aI cy (ma 4) 3472 (mS dy), aI cy (ma 5) 496 (mS kp), aZ cy (ma 6) 2 (fun j => bI (fl j)), aI cy (ma 7) 144 (mS wy), aI cy (ma 8) 8 (mS hp)] := hD
    show W _ _ _ _ _ _ _ _ _ _ _ _ _ _ _ (F0 mX 57 ls [.int (bI (decide (0 < (rkm 1 0 2 (fIff σ vd vf vc vo)))))])
    refine lv_if_eq (tgt := 62) hx hb dX8_ifFound_57 (by decide) (fun c_57 => ?_) (fun c_57 => ?_)
    · have c_57 := (bI_eq0.mp c_57)
      have c_57 : fIff σ vd vf vc vo = 0 := hfr.resolve_right (of_decide_eq_false c_57)
      obtain ⟨d9, f9, c9, o9, ⟨rfl, rfl, rfl, rfl⟩, hd9, hm9, hf9, hc9, ho9⟩ := fIff_0 hn0 c_57
      have hdb := hwf.db hd9
      have hA9 := hwf.hA d9 c9
      have hO9 := hwf.hO d9 f9 c9 o9
      have hmul : dg σ d9 4 * hOf σ d9 f9 c9 o9 ≤ 20000000 := mul_le_of (show dg σ d9 4 ≤ 210000 by omega) hO9 (by decide)
      refine lv_aload_n hx hb dX8_ifFound_62 rfl (lv_at hl 0 rfl) ?_
      refine lv_aload_n hx hb dX8_ifFound_63 rfl (lv_at hl 0 rfl) ?_
      refine va_get (D := g) (ci := 6) (v := .ref (ma 2)) (C := RX8) (T := TX8) (N := 13) hx hb hts bgX8 hown hK hP 0 rfl rfl 3 (by decide) (hts _ wd5_21) (fun _ h9 => h9) rfl dX8_ifFound_64 ?_
      refine wr_call (wc := [(ma 0, .inr (6, [.int (nI (rkm 1 0 2 (fIff σ (nI d9) (nI f9) (nI c9) (nI o9)))), .ref (ma 1), .int (nI ln), .ref (ma 2), .ref (ma 3), .ref (ma 4), .int (nI n), .ref (ma 5), .ref (ma 6), .ref (ma 7), .ref (ma 8), .int (nI sp), .int (nI ou)])), aI cy (ma 7) 144 (mS wy), aI cy (ma 2) 248 (mS σ)]) (va_runV (As := [.ref (ma 2)]) (rest := []) ⟨hx, hb, hml, hown, hts⟩ (c_X8_measure l g cy (ma 0) (ma 1) (ma 2) (ma 3) (ma 4) (ma 5) (ma 6) (ma 7) (ma 8) (ma 2) H.size (rkm 1 0 2 (fIff σ (nI d9) (nI f9) (nI c9) (nI o9))) ln n sp ou wy σ bd hwf) ⟨(cB 1 hts wd13_20 wd1_5 wd13_17 rfl rfl (by decide +kernel) ⟨Nat.le_of_ble_eq_true rfl, Nat.le_of_ble_eq_true rfl⟩), hts _ wd13_18, hts _ wd13_19⟩ (pv hK hP hD hS hA hX [0, 7, 2] rfl rfl 6 0 rfl rfl) rfl rfl hl.1 rfl (lv_room (Nat.le_of_ble_eq_true rfl)) dX8_ifFound_67 ⟨Nat.zero_le _, Nat.zero_le _⟩) hP hD hS hA [0, 7, 2] rfl rfl (fun _ => (rfl : ([ma 0, ma 7, ma 2] : List Nat) = [ma 0, ma 7, ma 2])) ?_
      rintro _u9 H locs - hP hD hS
      have hP : va_P g vwCl [(ma 0, .inr (6, [.int (nI (rkm 1 0 2 (fIff σ (nI d9) (nI f9) (nI c9) (nI o9)))), .ref (ma 1), .int (nI ln), .ref (ma 2), .ref (ma 3), .ref (ma 4), .int (nI n), .ref (ma 5), .ref (ma 6), .ref (ma 7), .ref (ma 8), .int (nI sp), .int (nI ou)])), aI cy (ma 1) 120 (mS tx), aI cy (ma 2) 248 (mS σ), aI cy (ma 3) 248 (mS tr), aI cy (ma 4) 3472 (mS dy), aI cy (ma 5) 496 (mS kp), aZ cy (ma 6) 2 (fun j => bI (fl j)), aI cy (ma 7) 144 (mS (D σ)), aI cy (ma 8) 8 (mS hp)] H := hP
      have hD : va_D A [(ma 0, .inr (6, [.int (nI (rkm 1 0 2 (fIff σ (nI d9) (nI f9) (nI c9) (nI o9)))), .ref (ma 1), .int (nI ln), .ref (ma 2), .ref (ma 3), .ref (ma 4), .int (nI n), .ref (ma 5), .ref (ma 6), .ref (ma 7), .ref (ma 8), .int (nI sp), .int (nI ou)])), aI cy (ma 1) 120 (mS tx), aI cy (ma 2) 248 (mS σ), aI cy (ma 3) 248 (mS tr), aI cy (ma 4) 3472 (mS dy), aI cy (ma 5) 496 (mS kp), aZ cy (ma 6) 2 (fun j => bI (fl j)), aI cy (ma 7) 144 (mS (D σ)), aI cy (ma 8) 8 (mS hp)] := hD
      show W _ _ _ _ _ _ _ _ _ _ _ _ _ _ _ (F0 mX 70 ls [])
      refine lv_aload_n hx hb dX8_ifFound_70 rfl (lv_at hl 0 rfl) ?_
      refine lv_aload_n hx hb dX8_ifFound_71 rfl (lv_at hl 0 rfl) ?_
      refine va_get (D := g) (ci := 6) (v := .ref (ma 2)) (C := RX8) (T := TX8) (N := 13) hx hb hts bgX8 hown hK hP 0 rfl rfl 3 (by decide) (hts _ wd5_21) (fun _ h9 => h9) rfl dX8_ifFound_72 ?_
      refine lv_iload_n hx hb dX8_ifFound_75 rfl (lv_at hl 1 rfl) ?_
      refine lv_iload_n hx hb dX8_ifFound_76 rfl (lv_at hl 2 rfl) ?_
      refine lv_iload_n hx hb dX8_ifFound_77 rfl (lv_at hl 3 rfl) ?_
      refine wr_call (wc := [(ma 0, .inr (6, [.int (nI (rkm 1 0 2 (fIff σ (nI d9) (nI f9) (nI c9) (nI o9)))), .ref (ma 1), .int (nI ln), .ref (ma 2), .ref (ma 3), .ref (ma 4), .int (nI n), .ref (ma 5), .ref (ma 6), .ref (ma 7), .ref (ma 8), .int (nI sp), .int (nI ou)])), aI cy (ma 7) 144 (mS (D σ)), aI cy (ma 8) 8 (mS hp), aI cy (ma 2) 248 (mS σ)]) (va_runV (As := [.ref (ma 2), .int (nI d9), .int (nI f9), .int (nI c9)]) (rest := []) ⟨hx, hb, hml, hown, hts⟩ (c_X8_helps l g cy (ma 0) (ma 1) (ma 2) (ma 3) (ma 4) (ma 5) (ma 6) (ma 7) (ma 8) (ma 2) H.size (rkm 1 0 2 (fIff σ (nI d9) (nI f9) (nI c9) (nI o9))) ln n sp ou (D σ) σ bd hp d9 f9 c9 hwf (fun _ _ => rfl) (by omega) (by omega) (by omega)) ⟨(cB 4 hts wd14_3 wd1_5 wd14_0 rfl rfl (by decide +kernel) ⟨Nat.le_of_ble_eq_true rfl, Nat.le_of_ble_eq_true rfl⟩), hts _ wd14_1, hts _ wd14_2⟩ (pv hK hP hD hS hA hX [0, 7, 8, 2] rfl rfl 6 0 rfl rfl) rfl rfl hl.1 rfl (lv_room (Nat.le_of_ble_eq_true rfl)) dX8_ifFound_78 ⟨Nat.zero_le _, Nat.zero_le _⟩) hP hD hS hA [0, 7, 8, 2] rfl rfl (fun _ => (rfl : ([ma 0, ma 7, ma 8, ma 2] : List Nat) = [ma 0, ma 7, ma 8, ma 2])) ?_
      rintro _u9 H locs - hP hD hS
      have hP : va_P g vwCl [(ma 0, .inr (6, [.int (nI (rkm 1 0 2 (fIff σ (nI d9) (nI f9) (nI c9) (nI o9)))), .ref (ma 1), .int (nI ln), .ref (ma 2), .ref (ma 3), .ref (ma 4), .int (nI n), .ref (ma 5), .ref (ma 6), .ref (ma 7), .ref (ma 8), .int (nI sp), .int (nI ou)])), aI cy (ma 1) 120 (mS tx), aI cy (ma 2) 248 (mS σ), aI cy (ma 3) 248 (mS tr), aI cy (ma 4) 3472 (mS dy), aI cy (ma 5) 496 (mS kp), aZ cy (ma 6) 2 (fun j => bI (fl j)), aI cy (ma 7) 144 (mS (D σ)), aI cy (ma 8) 8 (mS (hOf σ d9 f9 c9))] H := hP
      have hD : va_D A [(ma 0, .inr (6, [.int (nI (rkm 1 0 2 (fIff σ (nI d9) (nI f9) (nI c9) (nI o9)))), .ref (ma 1), .int (nI ln), .ref (ma 2), .ref (ma 3), .ref (ma 4), .int (nI n), .ref (ma 5), .ref (ma 6), .ref (ma 7), .ref (ma 8), .int (nI sp), .int (nI ou)])), aI cy (ma 1) 120 (mS tx), aI cy (ma 2) 248 (mS σ), aI cy (ma 3) 248 (mS tr), aI cy (ma 4) 3472 (mS dy), aI cy (ma 5) 496 (mS kp), aZ cy (ma 6) 2 (fun j => bI (fl j)), aI cy (ma 7) 144 (mS (D σ)), aI cy (ma 8) 8 (mS (hOf σ d9 f9 c9))] := hD
      show W _ _ _ _ _ _ _ _ _ _ _ _ _ _ _ (F0 mX 81 ls [.int (nI (hAll σ d9 c9))])
      refine lv_istore (lv' := [(5, .int (nI (hAll σ d9 c9))), (0, .ref (ma 0)), (1, .int (nI d9)), (2, .int (nI f9)), (3, .int (nI c9)), (4, .int (nI o9))]) hx hb dX8_ifFound_81 hl (by decide) rfl (fun ls hl => ?_)
      refine lv_aload_n hx hb dX8_ifFound_83 rfl (lv_at hl 1 rfl) ?_
      refine va_get (D := g) (ci := 6) (v := .ref (ma 2)) (C := RX8) (T := TX8) (N := 13) hx hb hts bgX8 hown hK hP 0 rfl rfl 3 (by decide) (hts _ wd5_21) (fun _ h9 => h9) rfl dX8_ifFound_84 ?_
      refine lv_iload_n hx hb dX8_ifFound_87 rfl (lv_at hl 2 rfl) ?_
      refine lv_iconst (v := (nI 4)) hx hb dX8_ifFound_88 (by decide) ?_
      refine rd_call (va_runS (As := [.ref (ma 2), .int (nI d9), .int (nI 4)]) (rest := []) ⟨hx, hb, hml, hown, hts⟩ (c_X8_ofDog l g cy (ma 2) H.size σ d9 4 (by omega) (by omega)) ⟨(cB 3 hts wd12_23 wd1_5 wd12_21 rfl rfl (by decide +kernel) ⟨Nat.le_of_ble_eq_true rfl, Nat.le_of_ble_eq_true rfl⟩), hts _ wd12_22⟩ (ps hK hP hD hS hA hX [2] rfl rfl) rfl rfl hl.1 rfl (lv_room (Nat.le_of_ble_eq_true rfl)) dX8_ifFound_89 ⟨Nat.zero_le _, Nat.zero_le _⟩) ?_
      show W _ _ _ _ _ _ _ _ _ _ _ _ _ _ _ (F0 mX 92 ls [.int (nI (dg σ d9 4))])
      refine lv_aload_n hx hb dX8_ifFound_92 rfl (lv_at hl 1 rfl) ?_
      refine va_get (D := g) (ci := 6) (v := .ref (ma 8)) (C := RX8) (T := TX8) (N := 13) hx hb hts bgX8 hown hK hP 0 rfl rfl 10 (by decide) (hts _ wd6_3) (fun _ h9 => h9) rfl dX8_ifFound_93 ?_
      refine lv_iload hx hb dX8_ifFound_96 (lv_at hl 5 rfl) ?_
      refine va_iald hx hb hK hP 8 0 rfl rfl (vp_in_nI (n := o9) (by omega) (by omega)) dX8_ifFound_98 ?_
      refine ti (show (mS (hOf σ d9 f9 c9)) (nI o9).toNatClampNeg = nI ((hOf σ d9 f9 c9) o9) from by rw [nI_clamp (by omega)]; rfl) ?_
      refine lv_imul hx hb dX8_ifFound_99 ?_
      refine ti (pk_mul (dg σ d9 4) ((hOf σ d9 f9 c9) o9)) ?_
      refine lv_iload hx hb dX8_ifFound_100 (lv_at hl 0 rfl) ?_
      refine lv_idiv hx hb dX8_ifFound_102 (nI_ne0 (by omega) (by omega)) ?_
      refine ti (pk_div (a := ((dg σ d9 4) * ((hOf σ d9 f9 c9) o9))) (d := (hAll σ d9 c9)) (by omega) (by omega) (by omega)) ?_
      refine ti (show (nI (((dg σ d9 4) * ((hOf σ d9 f9 c9) o9)) / (hAll σ d9 c9))) = (nI (shr σ d9 f9 c9 o9)) from rfl) ?_
      exact wr_i (tr, dy, kp, D σ, hOf σ d9 f9 c9, sp, ou, rkm 1 0 2 (fIff σ (nI d9) (nI f9) (nI c9) (nI o9))) (by rw [if_pos c_57, nI_clamp (by omega), nI_clamp (by omega), nI_clamp (by omega), nI_clamp (by omega)]) ⟨rfl, ⟨hwf, hn14, hdy, hkp, htx, hln⟩⟩ hP hS hx hb hr dX8_ifFound_103 hlk
    · have c_57 := (bI_ne0.mp c_57)
      have c_57 : ¬ fIff σ vd vf vc vo = 0 := fun e => by rw [e] at c_57; exact absurd c_57 (by decide)
      refine lv_iconst (v := (nI 0)) hx hb dX8_ifFound_60 (by decide) ?_
      exact wr_i (tr, dy, kp, wy, hp, sp, ou, rkm 1 0 2 (fIff σ vd vf vc vo)) (by rw [if_neg c_57]) ⟨rfl, (by skip; exact ⟨hwf, hn14, hdy, hkp, htx, hln⟩)⟩ (by skip; exact hP) hS hx hb hr dX8_ifFound_61 hlk
  · skip
    refine lv_aload_n hx hb dX8_ifFound_1 rfl (lv_at hl 0 rfl) ?_
    refine va_get (D := g) (ci := 6) (v := .ref (ma 2)) (C := RX8) (T := TX8) (N := 13) hx hb hts bgX8 hown hK hP 0 rfl rfl 3 (by decide) (hts _ wd5_21) (fun _ h9 => h9) rfl dX8_ifFound_2 ?_
    refine lv_iload_n hx hb dX8_ifFound_5 rfl (lv_at hl 1 rfl) ?_
    refine rd_call (va_runS (As := [.ref (ma 2), .int vd]) (rest := [.ref (ma 0)]) ⟨hx, hb, hml, hown, hts⟩ (c_X8_isDog l g cy (ma 2) s.heap.size σ vd (by omega)) ⟨(cB 2 hts wd13_12 wd1_5 wd13_10 rfl rfl (by decide +kernel) ⟨Nat.le_of_ble_eq_true rfl, Nat.le_of_ble_eq_true rfl⟩), hts _ wd13_11⟩ (ps hK hP hD hS hA hX [2] rfl rfl) rfl rfl hl.1 rfl (lv_room (Nat.le_of_ble_eq_true rfl)) dX8_ifFound_6 ⟨Nat.zero_le _, Nat.zero_le _⟩) ?_
    show W _ _ _ _ _ _ _ _ _ _ _ _ _ _ _ (F0 mX 9 ls [.int (bI (hasR (σ 0) vd)), .ref (ma 0)])
    refine lv_if_eq (tgt := 34) hx hb dX8_ifFound_9 (by decide) (fun c_9 => ?_) (fun c_9 => ?_)
    · have c_9 := (bI_eq0.mp c_9)
      refine lv_iconst (v := (nI 1)) hx hb dX8_ifFound_34 (by decide) ?_
      refine lv_goto (tgt := 54) hx hb dX8_ifFound_35 (by decide) ?_
      exact jn54 _ (congrArg nI (by simp [rkm, fIff, fFind, fAsk, c_9]))
    · have c_9 := (bI_ne0.mp c_9)
      refine lv_iload_n hx hb dX8_ifFound_12 rfl (lv_at hl 2 rfl) ?_
      refine rd_call (va_runS (As := [.int vf]) (rest := [.ref (ma 0)]) ⟨hx, hb, hml, hown, hts⟩ (c_X8_isFinder l vf ) ⟨(cB 1 hts wd27_3 wd1_5 wd27_1 rfl rfl (by decide +kernel) ⟨Nat.le_of_ble_eq_true rfl, Nat.le_of_ble_eq_true rfl⟩), hts _ wd27_2⟩ p0 rfl rfl hl.1 rfl (lv_room (Nat.le_of_ble_eq_true rfl)) dX8_ifFound_13 ⟨Nat.zero_le _, Nat.zero_le _⟩) ?_
      show W _ _ _ _ _ _ _ _ _ _ _ _ _ _ _ (F0 mX 16 ls [.int (bI (inR vf (nI 0) (nI 7))), .ref (ma 0)])
      refine lv_if_eq (tgt := 34) hx hb dX8_ifFound_16 (by decide) (fun c_16 => ?_) (fun c_16 => ?_)
      · have c_16 := (bI_eq0.mp c_16)
        refine lv_iconst (v := (nI 1)) hx hb dX8_ifFound_34 (by decide) ?_
        refine lv_goto (tgt := 54) hx hb dX8_ifFound_35 (by decide) ?_
        exact jn54 _ (congrArg nI (by simp [rkm, fIff, fFind, fAsk, c_9, c_16]))
      · have c_16 := (bI_ne0.mp c_16)
        refine lv_iload_n hx hb dX8_ifFound_19 rfl (lv_at hl 3 rfl) ?_
        refine rd_call (va_runS (As := [.int vc]) (rest := [.ref (ma 0)]) ⟨hx, hb, hml, hown, hts⟩ (c_X8_isCorner l vc ) ⟨(cB 1 hts wd28_15 wd1_5 wd28_13 rfl rfl (by decide +kernel) ⟨Nat.le_of_ble_eq_true rfl, Nat.le_of_ble_eq_true rfl⟩), hts _ wd28_14⟩ p0 rfl rfl hl.1 rfl (lv_room (Nat.le_of_ble_eq_true rfl)) dX8_ifFound_20 ⟨Nat.zero_le _, Nat.zero_le _⟩) ?_
        show W _ _ _ _ _ _ _ _ _ _ _ _ _ _ _ (F0 mX 23 ls [.int (bI (inR vc (nI 0) (nI 11))), .ref (ma 0)])
        refine lv_if_eq (tgt := 34) hx hb dX8_ifFound_23 (by decide) (fun c_23 => ?_) (fun c_23 => ?_)
        · have c_23 := (bI_eq0.mp c_23)
          refine lv_iconst (v := (nI 1)) hx hb dX8_ifFound_34 (by decide) ?_
          refine lv_goto (tgt := 54) hx hb dX8_ifFound_35 (by decide) ?_
          exact jn54 _ (congrArg nI (by simp [rkm, fIff, fFind, fAsk, c_9, c_16, c_23]))
        · have c_23 := (bI_ne0.mp c_23)
          refine lv_iload hx hb dX8_ifFound_26 (lv_at hl 4 rfl) ?_
          refine rd_call (va_runS (As := [.int vo]) (rest := [.ref (ma 0)]) ⟨hx, hb, hml, hown, hts⟩ (c_X8_isFinder l vo ) ⟨(cB 1 hts wd27_3 wd1_5 wd27_1 rfl rfl (by decide +kernel) ⟨Nat.le_of_ble_eq_true rfl, Nat.le_of_ble_eq_true rfl⟩), hts _ wd27_2⟩ p0 rfl rfl hl.1 rfl (lv_room (Nat.le_of_ble_eq_true rfl)) dX8_ifFound_28 ⟨Nat.zero_le _, Nat.zero_le _⟩) ?_
          show W _ _ _ _ _ _ _ _ _ _ _ _ _ _ _ (F0 mX 31 ls [.int (bI (inR vo (nI 0) (nI 7))), .ref (ma 0)])
          refine lv_if_ne (tgt := 38) hx hb dX8_ifFound_31 (by decide) (fun c_31 => ?_) (fun c_31 => ?_)
          · have c_31 := (bI_ne0.mp c_31)
            obtain ⟨d9, hd9, rfl⟩ := hasR_ex (by omega) c_9
            have hdb := hwf.db hd9
            refine lv_aload_n hx hb dX8_ifFound_38 rfl (lv_at hl 0 rfl) ?_
            refine va_get (D := g) (ci := 6) (v := .ref (ma 2)) (C := RX8) (T := TX8) (N := 13) hx hb hts bgX8 hown hK hP 0 rfl rfl 3 (by decide) (hts _ wd5_21) (fun _ h9 => h9) rfl dX8_ifFound_39 ?_
            refine lv_iload_n hx hb dX8_ifFound_42 rfl (lv_at hl 1 rfl) ?_
            refine rd_call (va_runS (As := [.ref (ma 2), .int (nI d9)]) (rest := [.ref (ma 0)]) ⟨hx, hb, hml, hown, hts⟩ (c_X8_isMissing l g cy (ma 2) s.heap.size σ d9 (by omega) (by omega)) ⟨(cB 2 hts wd12_20 wd1_5 wd12_18 rfl rfl (by decide +kernel) ⟨Nat.le_of_ble_eq_true rfl, Nat.le_of_ble_eq_true rfl⟩), hts _ wd12_19⟩ (ps hK hP hD hS hA hX [2] rfl rfl) rfl rfl hl.1 rfl (lv_room (Nat.le_of_ble_eq_true rfl)) dX8_ifFound_43 ⟨Nat.zero_le _, Nat.zero_le _⟩) ?_
            show W _ _ _ _ _ _ _ _ _ _ _ _ _ _ _ (F0 mX 46 ls [.int (bI (msg σ d9)), .ref (ma 0)])
            refine lv_if_eq (tgt := 53) hx hb dX8_ifFound_46 (by decide) (fun c_46 => ?_) (fun c_46 => ?_)
            · have c_46 := (bI_eq0.mp c_46)
              refine lv_iconst (v := (nI 2)) hx hb dX8_ifFound_53 (by decide) ?_
              exact jn54 _ (congrArg nI (by simp [rkm, fIff, fFind, fAsk, c_9, c_16, c_23, c_31, c_46, nI_clamp (show d9 < 2 ^ 31 by omega)]))
            · have c_46 := (bI_ne0.mp c_46)
              refine lv_iconst (v := (nI 0)) hx hb dX8_ifFound_49 (by decide) ?_
              refine lv_goto (tgt := 54) hx hb dX8_ifFound_50 (by decide) ?_
              exact jn54 _ (congrArg nI (by simp [rkm, fIff, fFind, fAsk, c_9, c_16, c_23, c_31, c_46, nI_clamp (show d9 < 2 ^ 31 by omega)]))
          · have c_31 := (bI_eq0.mp c_31)
            refine lv_iconst (v := (nI 1)) hx hb dX8_ifFound_34 (by decide) ?_
            refine lv_goto (tgt := 54) hx hb dX8_ifFound_35 (by decide) ?_
            exact jn54 _ (congrArg nI (by simp [rkm, fIff, fFind, fAsk, c_9, c_16, c_23, c_31]))
set_option maxHeartbeats 4000000 in
set_option maxRecDepth 100000 in
theorem c_X8_save (l : Launch) (g : va_G) (cy : Nat → ClassId) (ma : Nat → Nat) (sz : Nat) (bd : Nat) (q : Mc) (σ : Nat → Nat) (Hh : Nat → Nat → Nat) (n : Nat) (K : Nat → Nat → Nat) (fl : Nat → Bool) (tx : Nat → Nat) (ln : Nat) (vs : Int32) (hI : mI bd q σ Hh n K fl tx ln) : Met l yX8_save (Cond.code yX8_save cX8_save 2 (some .int) :: wsL_law) ({ frames := 1, cells := 0, slots := 0, locals := 25 } : Room) (va_Pc [.ref (ma 0), .int vs] (pr g cy (mQ cy ma q σ n fl tx ln) sz)) (wr_Q (fun _ : Mc => (some (.int (nI (if fSlo vs = 0 then σ 2 else 0))))) (fun q9 : Mc => q9.2.2.2.2.2.2.2 = rkm 1 0 0 (fSlo vs) ∧ mI bd q9 σ Hh n (if fSlo vs = 0 then sv2 K vs.toNatClampNeg σ else K) (if fSlo vs = 0 then sv2 fl vs.toNatClampNeg true else fl) tx ln) (fun q9 : Mc => mQ cy ma q9 σ n (if fSlo vs = 0 then sv2 fl vs.toNatClampNeg true else fl) tx ln) g (va_A (mQ cy ma q σ n fl tx ln) sz)) 0 0 (va_A (mQ cy ma q σ n fl tx ln) sz) := by
  obtain ⟨tr, dy, kp, wy, hp, sp, ou, rf⟩ := q
  obtain ⟨hwf, hn14, hdy, hkp, htx, hln⟩ := hI
  have hdy : ∀ k, k < n → ∀ j, j < 248 → dy (248 * k + j) = Hh k j := hdy
  have hkp : ∀ k, k < 2 → fl k = true → ∀ j, j < 248 → kp (248 * k + j) = K k j := hkp
  refine mt_of (cc := cX8_save) (maxL := 2) (ret := (some .int)) (by decide +kernel) (Nat.le_of_ble_eq_true rfl) ?_
  intro pX eX s mX below meth cX ls A hx hb hr hml hown hts hlk hin hsz hAe hA hP hD hK hX hl
  subst hsz
  rw [← hAe]
  clear hAe
  have hP : va_P g vwCl [(ma 0, .inr (6, [.int (nI rf), .ref (ma 1), .int (nI ln), .ref (ma 2), .ref (ma 3), .ref (ma 4), .int (nI n), .ref (ma 5), .ref (ma 6), .ref (ma 7), .ref (ma 8), .int (nI sp), .int (nI ou)])), aI cy (ma 1) 120 (mS tx), aI cy (ma 2) 248 (mS σ), aI cy (ma 3) 248 (mS tr), aI cy (ma 4) 3472 (mS dy), aI cy (ma 5) 496 (mS kp), aZ cy (ma 6) 2 (fun j => bI (fl j)), aI cy (ma 7) 144 (mS wy), aI cy (ma 8) 8 (mS hp)] s.heap := hP
  have hD : va_D A [(ma 0, .inr (6, [.int (nI rf), .ref (ma 1), .int (nI ln), .ref (ma 2), .ref (ma 3), .ref (ma 4), .int (nI n), .ref (ma 5), .ref (ma 6), .ref (ma 7), .ref (ma 8), .int (nI sp), .int (nI ou)])), aI cy (ma 1) 120 (mS tx), aI cy (ma 2) 248 (mS σ), aI cy (ma 3) 248 (mS tr), aI cy (ma 4) 3472 (mS dy), aI cy (ma 5) 496 (mS kp), aZ cy (ma 6) 2 (fun j => bI (fl j)), aI cy (ma 7) 144 (mS wy), aI cy (ma 8) 8 (mS hp)] := hD
  have hl : lv_has ls 2 [(0, .ref (ma 0)), (1, .int vs)] := hl
  have hS : va_S A s.heap s.heap [] := va_S.rf
  have hn0 := hwf.n0
  have hn1 := hwf.n1
  have hh2 := hwf.h2
  have hfr : fSlo vs = 0 ∨ 0 < rkm 1 0 0 (fSlo vs) := by unfold fSlo rkm; (repeat' split) <;> omega
  have hfl9 : rkm 1 0 0 (fSlo vs) < 10 := by unfold rkm; (repeat' split) <;> omega
  refine lv_aload_n hx hb dX8_save_0 rfl (lv_at hl 0 rfl) ?_
  refine jn_i (pcj := 16) (ls := ls) (st := [.ref (ma 0)]) (fun v9 => v9 = (nI (rkm 1 0 0 (fSlo vs)))) ?_ (fun jn16 => ?_)
  · intro v9 hv9
    subst hv9
    refine wr_call (wc := [(ma 0, .inr (6, [.int (nI rf), .ref (ma 1), .int (nI ln), .ref (ma 2), .ref (ma 3), .ref (ma 4), .int (nI n), .ref (ma 5), .ref (ma 6), .ref (ma 7), .ref (ma 8), .int (nI sp), .int (nI ou)]))]) (va_runV (As := [.int (nI (rkm 1 0 0 (fSlo vs)))]) (rest := []) ⟨hx, hb, hml, hown, hts⟩ (c_X8_refused l g cy (ma 0) (ma 1) (ma 2) (ma 3) (ma 4) (ma 5) (ma 6) (ma 7) (ma 8) s.heap.size rf ln n sp ou (rkm 1 0 0 (fSlo vs)) (by omega)) ⟨(cB 1 hts wd7_21 wd1_5 wd7_18 rfl rfl (by decide +kernel) ⟨Nat.le_of_ble_eq_true rfl, Nat.le_of_ble_eq_true rfl⟩), hts _ wd7_19, hts _ wd7_20⟩ (pv hK hP hD hS hA hX [0] rfl rfl 6 0 rfl rfl) rfl rfl hl.1 rfl (lv_room (Nat.le_of_ble_eq_true rfl)) dX8_save_16 ⟨Nat.zero_le _, Nat.zero_le _⟩) hP hD hS hA [0] rfl rfl (fun _ => (rfl : ([ma 0] : List Nat) = [ma 0])) ?_
    rintro _u9 H locs - hP hD hS
    have hP : va_P g vwCl [(ma 0, .inr (6, [.int (nI (rkm 1 0 0 (fSlo vs))), .ref (ma 1), .int (nI ln), .ref (ma 2), .ref (ma 3), .ref (ma 4), .int (nI n), .ref (ma 5), .ref (ma 6), .ref (ma 7), .ref (ma 8), .int (nI sp), .int (nI ou)])), aI cy (ma 1) 120 (mS tx), aI cy (ma 2) 248 (mS σ), aI cy (ma 3) 248 (mS tr), aI cy (ma 4) 3472 (mS dy), aI cy (ma 5) 496 (mS kp), aZ cy (ma 6) 2 (fun j => bI (fl j)), aI cy (ma 7) 144 (mS wy), aI cy (ma 8) 8 (mS hp)] H := hP
    have hD : va_D A [(ma 0, .inr (6, [.int (nI (rkm 1 0 0 (fSlo vs))), .ref (ma 1), .int (nI ln), .ref (ma 2), .ref (ma 3), .ref (ma 4), .int (nI n), .ref (ma 5), .ref (ma 6), .ref (ma 7), .ref (ma 8), .int (nI sp), .int (nI ou)])), aI cy (ma 1) 120 (mS tx), aI cy (ma 2) 248 (mS σ), aI cy (ma 3) 248 (mS tr), aI cy (ma 4) 3472 (mS dy), aI cy (ma 5) 496 (mS kp), aZ cy (ma 6) 2 (fun j => bI (fl j)), aI cy (ma 7) 144 (mS wy), aI cy (ma 8) 8 (mS hp)] := hD
    show W _ _ _ _ _ _ _ _ _ _ _ _ _ _ _ (F0 mX 19 ls [.int (bI (decide (0 < (rkm 1 0 0 (fSlo vs)))))])
    refine lv_if_eq (tgt := 24) hx hb dX8_save_19 (by decide) (fun c_19 => ?_) (fun c_19 => ?_)
    · have c_19 := (bI_eq0.mp c_19)
      have c_19 : fSlo vs = 0 := hfr.resolve_right (of_decide_eq_false c_19)
      obtain ⟨j9, hj9, rfl⟩ := fSlo_0 c_19
      refine lv_aload_n hx hb dX8_save_24 rfl (lv_at hl 0 rfl) ?_
      refine va_get (D := g) (ci := 6) (v := .ref (ma 2)) (C := RX8) (T := TX8) (N := 13) hx hb hts bgX8 hown hK hP 0 rfl rfl 3 (by decide) (hts _ wd5_21) (fun _ h9 => h9) rfl dX8_save_25 ?_
      refine lv_iconst (v := (nI 0)) hx hb dX8_save_28 (by decide) ?_
      refine lv_aload_n hx hb dX8_save_29 rfl (lv_at hl 0 rfl) ?_
      refine va_get (D := g) (ci := 6) (v := .ref (ma 5)) (C := RX8) (T := TX8) (N := 13) hx hb hts bgX8 hown hK hP 0 rfl rfl 7 (by decide) (hts _ wd6_0) (fun _ h9 => h9) rfl dX8_save_30 ?_
      refine lv_sipush (v := (nI 248)) hx hb dX8_save_33 (by decide) ?_
      refine lv_iload_n hx hb dX8_save_36 rfl (lv_at hl 1 rfl) ?_
      refine lv_imul hx hb dX8_save_37 ?_
      refine ti (pk_mul 248 j9) ?_
      refine wr_call (wc := [aI cy (ma 2) 248 (mS σ), aI cy (ma 5) 496 (mS kp)]) (va_runS (As := [.ref (ma 2), .int (nI 0), .ref (ma 5), .int (nI (248 * j9))]) (rest := []) ⟨hx, hb, hml, hown, hts⟩ (c_X8_copyState l g cy (ma 2) (ma 5) H.size 248 496 σ kp 0 (248 * j9) (by omega) (by omega) (by omega) (by omega)) ⟨(cB 4 hts wd23_3 wd1_5 wd23_1 rfl rfl (by decide +kernel) ⟨Nat.le_of_ble_eq_true rfl, Nat.le_of_ble_eq_true rfl⟩), hts _ wd23_2⟩ (ps hK hP hD hS hA hX [2, 5] rfl rfl) rfl rfl hl.1 rfl (lv_room (Nat.le_of_ble_eq_true rfl)) dX8_save_38 ⟨Nat.zero_le _, Nat.zero_le _⟩) hP hD hS hA [2, 5] rfl rfl (fun _ => (rfl : ([ma 2, ma 5] : List Nat) = [ma 2, ma 5])) ?_
      rintro _u9 H locs - hP hD hS
      have hP : va_P g vwCl [(ma 0, .inr (6, [.int (nI (rkm 1 0 0 (fSlo (nI j9)))), .ref (ma 1), .int (nI ln), .ref (ma 2), .ref (ma 3), .ref (ma 4), .int (nI n), .ref (ma 5), .ref (ma 6), .ref (ma 7), .ref (ma 8), .int (nI sp), .int (nI ou)])), aI cy (ma 1) 120 (mS tx), aI cy (ma 2) 248 (mS σ), aI cy (ma 3) 248 (mS tr), aI cy (ma 4) 3472 (mS dy), aI cy (ma 5) 496 (mS (cpS σ kp 0 (248 * j9) 248)), aZ cy (ma 6) 2 (fun j => bI (fl j)), aI cy (ma 7) 144 (mS wy), aI cy (ma 8) 8 (mS hp)] H := hP
      have hD : va_D A [(ma 0, .inr (6, [.int (nI (rkm 1 0 0 (fSlo (nI j9)))), .ref (ma 1), .int (nI ln), .ref (ma 2), .ref (ma 3), .ref (ma 4), .int (nI n), .ref (ma 5), .ref (ma 6), .ref (ma 7), .ref (ma 8), .int (nI sp), .int (nI ou)])), aI cy (ma 1) 120 (mS tx), aI cy (ma 2) 248 (mS σ), aI cy (ma 3) 248 (mS tr), aI cy (ma 4) 3472 (mS dy), aI cy (ma 5) 496 (mS (cpS σ kp 0 (248 * j9) 248)), aZ cy (ma 6) 2 (fun j => bI (fl j)), aI cy (ma 7) 144 (mS wy), aI cy (ma 8) 8 (mS hp)] := hD
      show W _ _ _ _ _ _ _ _ _ _ _ _ _ _ _ (F0 mX 41 ls [])
      refine lv_aload_n hx hb dX8_save_41 rfl (lv_at hl 0 rfl) ?_
      refine va_get (D := g) (ci := 6) (v := .ref (ma 6)) (C := RX8) (T := TX8) (N := 13) hx hb hts bgX8 hown hK hP 0 rfl rfl 8 (by decide) (hts _ wd6_1) (fun _ h9 => h9) rfl dX8_save_42 ?_
      refine lv_iload_n hx hb dX8_save_45 rfl (lv_at hl 1 rfl) ?_
      refine lv_iconst (v := (nI 1)) hx hb dX8_save_46 (by decide) ?_
      refine ti (show (nI 1) = (bI true) from rfl) ?_
      refine va_zast hx hb hK hP hD hS 6 1 rfl rfl (vp_in_nI (n := j9) (by omega) (by omega)) dX8_save_47 (fun H locs hP hD hS => ?_)
      rw [nI_clamp (n := j9) (by omega)] at hP hD
      rw [bI_vpnar] at hP hD
      have hP : va_P g vwCl [(ma 0, .inr (6, [.int (nI (rkm 1 0 0 (fSlo (nI j9)))), .ref (ma 1), .int (nI ln), .ref (ma 2), .ref (ma 3), .ref (ma 4), .int (nI n), .ref (ma 5), .ref (ma 6), .ref (ma 7), .ref (ma 8), .int (nI sp), .int (nI ou)])), aI cy (ma 1) 120 (mS tx), aI cy (ma 2) 248 (mS σ), aI cy (ma 3) 248 (mS tr), aI cy (ma 4) 3472 (mS dy), aI cy (ma 5) 496 (mS (cpS σ kp 0 (248 * j9) 248)), aZ cy (ma 6) 2 (upd (fun j => bI (fl j)) j9 (bI true)), aI cy (ma 7) 144 (mS wy), aI cy (ma 8) 8 (mS hp)] H := hP
      have hD : va_D A [(ma 0, .inr (6, [.int (nI (rkm 1 0 0 (fSlo (nI j9)))), .ref (ma 1), .int (nI ln), .ref (ma 2), .ref (ma 3), .ref (ma 4), .int (nI n), .ref (ma 5), .ref (ma 6), .ref (ma 7), .ref (ma 8), .int (nI sp), .int (nI ou)])), aI cy (ma 1) 120 (mS tx), aI cy (ma 2) 248 (mS σ), aI cy (ma 3) 248 (mS tr), aI cy (ma 4) 3472 (mS dy), aI cy (ma 5) 496 (mS (cpS σ kp 0 (248 * j9) 248)), aZ cy (ma 6) 2 (upd (fun j => bI (fl j)) j9 (bI true)), aI cy (ma 7) 144 (mS wy), aI cy (ma 8) 8 (mS hp)] := hD
      rw [show (upd (fun j => bI (fl j)) j9 (bI true)) = (fun k => bI (sv2 fl j9 true k)) from sv_fl] at hP hD
      refine lv_aload_n hx hb dX8_save_48 rfl (lv_at hl 0 rfl) ?_
      refine va_get (D := g) (ci := 6) (v := .ref (ma 2)) (C := RX8) (T := TX8) (N := 13) hx hb hts bgX8 hown hK hP 0 rfl rfl 3 (by decide) (hts _ wd5_21) (fun _ h9 => h9) rfl dX8_save_49 ?_
      refine lv_iconst (v := (nI 2)) hx hb dX8_save_52 (by decide) ?_
      refine va_iald hx hb hK hP 2 0 rfl rfl (vp_in_nI (n := 2) (by omega) (by omega)) dX8_save_53 ?_
      refine ti (show (mS σ) (nI 2).toNatClampNeg = nI (σ 2) from by rw [nI_clamp (by omega)]; rfl) ?_
      exact wr_i (tr, dy, cpS σ kp 0 (248 * j9) 248, wy, hp, sp, ou, rkm 1 0 0 (fSlo (nI j9))) (by rw [if_pos c_19]) ⟨rfl, (by simp only [if_pos c_19, nI_clamp (show j9 < 2 ^ 31 by omega)]; exact ⟨hwf, hn14, hdy, (sv_kp hj9 hkp), htx, hln⟩)⟩ (by simp only [if_pos c_19, nI_clamp (show j9 < 2 ^ 31 by omega)]; exact hP) hS hx hb hr dX8_save_54 hlk
    · have c_19 := (bI_ne0.mp c_19)
      have c_19 : ¬ fSlo vs = 0 := fun e => by rw [e] at c_19; exact absurd c_19 (by decide)
      refine lv_iconst (v := (nI 0)) hx hb dX8_save_22 (by decide) ?_
      exact wr_i (tr, dy, kp, wy, hp, sp, ou, rkm 1 0 0 (fSlo vs)) (by rw [if_neg c_19]) ⟨rfl, (by simp only [if_neg c_19]; exact ⟨hwf, hn14, hdy, hkp, htx, hln⟩)⟩ (by simp only [if_neg c_19]; exact hP) hS hx hb hr dX8_save_23 hlk
  · skip
    refine lv_iload_n hx hb dX8_save_1 rfl (lv_at hl 1 rfl) ?_
    refine lv_i2l (v := vs.toInt64) hx hb dX8_save_2 rfl ?_
    refine lv_lconst (v := 0) hx hb dX8_save_3 rfl ?_
    refine lv_lconst (v := 1) hx hb dX8_save_4 rfl ?_
    refine rd_call (va_runS (As := [.long vs.toInt64, .long (0 : Int64), .long (1 : Int64)]) (rest := [.ref (ma 0)]) ⟨hx, hb, hml, hown, hts⟩ (c_X8_in l vs.toInt64 (0 : Int64) (1 : Int64) ) ⟨(cB 3 hts wd7_17 wd1_5 wd7_15 rfl rfl (by decide +kernel) ⟨Nat.le_of_ble_eq_true rfl, Nat.le_of_ble_eq_true rfl⟩), hts _ wd7_16⟩ p0 rfl rfl hl.1 rfl (lv_room (Nat.le_of_ble_eq_true rfl)) dX8_save_5 ⟨Nat.zero_le _, Nat.zero_le _⟩) ?_
    show W _ _ _ _ _ _ _ _ _ _ _ _ _ _ _ (F0 mX 8 ls [.int (bI (inL vs.toInt64 (0 : Int64) (1 : Int64))), .ref (ma 0)])
    refine ti (show (bI (inL vs.toInt64 (0 : Int64) (1 : Int64))) = (bI (hasR 2 vs)) from (congrArg bI ((inL_c (a := 0) (b := 1) (by decide) (by decide)).trans (hasR_in (k := 1) (by decide)).symm))) ?_
    refine lv_if_eq (tgt := 15) hx hb dX8_save_8 (by decide) (fun c_8 => ?_) (fun c_8 => ?_)
    · have c_8 := (bI_eq0.mp c_8)
      refine lv_iconst (v := (nI 1)) hx hb dX8_save_15 (by decide) ?_
      exact jn16 _ (congrArg nI (by simp [rkm, fSlo, c_8]))
    · have c_8 := (bI_ne0.mp c_8)
      refine lv_iconst (v := (nI 0)) hx hb dX8_save_11 (by decide) ?_
      refine lv_goto (tgt := 16) hx hb dX8_save_12 (by decide) ?_
      exact jn16 _ (congrArg nI (by simp [rkm, fSlo, c_8]))
set_option maxHeartbeats 4000000 in
set_option maxRecDepth 100000 in
theorem c_X8_restore (l : Launch) (g : va_G) (cy : Nat → ClassId) (ma : Nat → Nat) (sz : Nat) (bd : Nat) (q : Mc) (σ : Nat → Nat) (Hh : Nat → Nat → Nat) (n : Nat) (K : Nat → Nat → Nat) (fl : Nat → Bool) (tx : Nat → Nat) (ln : Nat) (vs : Int32) (hI : mI bd q σ Hh n K fl tx ln) (hwk : ∀ k, k < 2 → fl k = true → WF bd (K k)) : Met l yX8_restore (Cond.code yX8_restore cX8_restore 2 (some .int) :: wsL_law) ({ frames := 1, cells := 0, slots := 0, locals := 25 } : Room) (va_Pc [.ref (ma 0), .int vs] (pr g cy (mQ cy ma q σ n fl tx ln) sz)) (wr_Q (fun _ : Mc => (some (.int (nI (if fRes fl vs = 0 then K vs.toNatClampNeg 2 else 0))))) (fun q9 : Mc => q9.2.2.2.2.2.2.2 = rkm 1 0 2 (fRes fl vs) ∧ mI bd q9 (if fRes fl vs = 0 then K vs.toNatClampNeg else σ) Hh (if fRes fl vs = 0 then 0 else n) K fl tx ln) (fun q9 : Mc => mQ cy ma q9 (if fRes fl vs = 0 then K vs.toNatClampNeg else σ) (if fRes fl vs = 0 then 0 else n) fl tx ln) g (va_A (mQ cy ma q σ n fl tx ln) sz)) 0 0 (va_A (mQ cy ma q σ n fl tx ln) sz) := by
  obtain ⟨tr, dy, kp, wy, hp, sp, ou, rf⟩ := q
  obtain ⟨hwf, hn14, hdy, hkp, htx, hln⟩ := hI
  have hdy : ∀ k, k < n → ∀ j, j < 248 → dy (248 * k + j) = Hh k j := hdy
  have hkp : ∀ k, k < 2 → fl k = true → ∀ j, j < 248 → kp (248 * k + j) = K k j := hkp
  refine mt_of (cc := cX8_restore) (maxL := 2) (ret := (some .int)) (by decide +kernel) (Nat.le_of_ble_eq_true rfl) ?_
  intro pX eX s mX below meth cX ls A hx hb hr hml hown hts hlk hin hsz hAe hA hP hD hK hX hl
  subst hsz
  rw [← hAe]
  clear hAe
  have hP : va_P g vwCl [(ma 0, .inr (6, [.int (nI rf), .ref (ma 1), .int (nI ln), .ref (ma 2), .ref (ma 3), .ref (ma 4), .int (nI n), .ref (ma 5), .ref (ma 6), .ref (ma 7), .ref (ma 8), .int (nI sp), .int (nI ou)])), aI cy (ma 1) 120 (mS tx), aI cy (ma 2) 248 (mS σ), aI cy (ma 3) 248 (mS tr), aI cy (ma 4) 3472 (mS dy), aI cy (ma 5) 496 (mS kp), aZ cy (ma 6) 2 (fun j => bI (fl j)), aI cy (ma 7) 144 (mS wy), aI cy (ma 8) 8 (mS hp)] s.heap := hP
  have hD : va_D A [(ma 0, .inr (6, [.int (nI rf), .ref (ma 1), .int (nI ln), .ref (ma 2), .ref (ma 3), .ref (ma 4), .int (nI n), .ref (ma 5), .ref (ma 6), .ref (ma 7), .ref (ma 8), .int (nI sp), .int (nI ou)])), aI cy (ma 1) 120 (mS tx), aI cy (ma 2) 248 (mS σ), aI cy (ma 3) 248 (mS tr), aI cy (ma 4) 3472 (mS dy), aI cy (ma 5) 496 (mS kp), aZ cy (ma 6) 2 (fun j => bI (fl j)), aI cy (ma 7) 144 (mS wy), aI cy (ma 8) 8 (mS hp)] := hD
  have hl : lv_has ls 2 [(0, .ref (ma 0)), (1, .int vs)] := hl
  have hS : va_S A s.heap s.heap [] := va_S.rf
  have hn0 := hwf.n0
  have hn1 := hwf.n1
  have hh2 := hwf.h2
  have hfr : fRes fl vs = 0 ∨ 0 < rkm 1 0 2 (fRes fl vs) := by unfold fRes rkm; (repeat' split) <;> omega
  have hfl9 : rkm 1 0 2 (fRes fl vs) < 10 := by unfold rkm; (repeat' split) <;> omega
  refine lv_aload_n hx hb dX8_restore_0 rfl (lv_at hl 0 rfl) ?_
  refine jn_i (pcj := 29) (ls := ls) (st := [.ref (ma 0)]) (fun v9 => v9 = (nI (rkm 1 0 2 (fRes fl vs)))) ?_ (fun jn29 => ?_)
  · intro v9 hv9
    subst hv9
    refine wr_call (wc := [(ma 0, .inr (6, [.int (nI rf), .ref (ma 1), .int (nI ln), .ref (ma 2), .ref (ma 3), .ref (ma 4), .int (nI n), .ref (ma 5), .ref (ma 6), .ref (ma 7), .ref (ma 8), .int (nI sp), .int (nI ou)]))]) (va_runV (As := [.int (nI (rkm 1 0 2 (fRes fl vs)))]) (rest := []) ⟨hx, hb, hml, hown, hts⟩ (c_X8_refused l g cy (ma 0) (ma 1) (ma 2) (ma 3) (ma 4) (ma 5) (ma 6) (ma 7) (ma 8) s.heap.size rf ln n sp ou (rkm 1 0 2 (fRes fl vs)) (by omega)) ⟨(cB 1 hts wd7_21 wd1_5 wd7_18 rfl rfl (by decide +kernel) ⟨Nat.le_of_ble_eq_true rfl, Nat.le_of_ble_eq_true rfl⟩), hts _ wd7_19, hts _ wd7_20⟩ (pv hK hP hD hS hA hX [0] rfl rfl 6 0 rfl rfl) rfl rfl hl.1 rfl (lv_room (Nat.le_of_ble_eq_true rfl)) dX8_restore_29 ⟨Nat.zero_le _, Nat.zero_le _⟩) hP hD hS hA [0] rfl rfl (fun _ => (rfl : ([ma 0] : List Nat) = [ma 0])) ?_
    rintro _u9 H locs - hP hD hS
    have hP : va_P g vwCl [(ma 0, .inr (6, [.int (nI (rkm 1 0 2 (fRes fl vs))), .ref (ma 1), .int (nI ln), .ref (ma 2), .ref (ma 3), .ref (ma 4), .int (nI n), .ref (ma 5), .ref (ma 6), .ref (ma 7), .ref (ma 8), .int (nI sp), .int (nI ou)])), aI cy (ma 1) 120 (mS tx), aI cy (ma 2) 248 (mS σ), aI cy (ma 3) 248 (mS tr), aI cy (ma 4) 3472 (mS dy), aI cy (ma 5) 496 (mS kp), aZ cy (ma 6) 2 (fun j => bI (fl j)), aI cy (ma 7) 144 (mS wy), aI cy (ma 8) 8 (mS hp)] H := hP
    have hD : va_D A [(ma 0, .inr (6, [.int (nI (rkm 1 0 2 (fRes fl vs))), .ref (ma 1), .int (nI ln), .ref (ma 2), .ref (ma 3), .ref (ma 4), .int (nI n), .ref (ma 5), .ref (ma 6), .ref (ma 7), .ref (ma 8), .int (nI sp), .int (nI ou)])), aI cy (ma 1) 120 (mS tx), aI cy (ma 2) 248 (mS σ), aI cy (ma 3) 248 (mS tr), aI cy (ma 4) 3472 (mS dy), aI cy (ma 5) 496 (mS kp), aZ cy (ma 6) 2 (fun j => bI (fl j)), aI cy (ma 7) 144 (mS wy), aI cy (ma 8) 8 (mS hp)] := hD
    show W _ _ _ _ _ _ _ _ _ _ _ _ _ _ _ (F0 mX 32 ls [.int (bI (decide (0 < (rkm 1 0 2 (fRes fl vs)))))])
    refine lv_if_eq (tgt := 37) hx hb dX8_restore_32 (by decide) (fun c_32 => ?_) (fun c_32 => ?_)
    · have c_32 := (bI_eq0.mp c_32)
      have c_32 : fRes fl vs = 0 := hfr.resolve_right (of_decide_eq_false c_32)
      obtain ⟨j9, hj9, rfl, hfj⟩ := fRes_0 c_32
      refine lv_aload_n hx hb dX8_restore_37 rfl (lv_at hl 0 rfl) ?_
      refine va_get (D := g) (ci := 6) (v := .ref (ma 5)) (C := RX8) (T := TX8) (N := 13) hx hb hts bgX8 hown hK hP 0 rfl rfl 7 (by decide) (hts _ wd6_0) (fun _ h9 => h9) rfl dX8_restore_38 ?_
      refine lv_sipush (v := (nI 248)) hx hb dX8_restore_41 (by decide) ?_
      refine lv_iload_n hx hb dX8_restore_44 rfl (lv_at hl 1 rfl) ?_
      refine lv_imul hx hb dX8_restore_45 ?_
      refine ti (pk_mul 248 j9) ?_
      refine lv_aload_n hx hb dX8_restore_46 rfl (lv_at hl 0 rfl) ?_
      refine va_get (D := g) (ci := 6) (v := .ref (ma 2)) (C := RX8) (T := TX8) (N := 13) hx hb hts bgX8 hown hK hP 0 rfl rfl 3 (by decide) (hts _ wd5_21) (fun _ h9 => h9) rfl dX8_restore_47 ?_
      refine lv_iconst (v := (nI 0)) hx hb dX8_restore_50 (by decide) ?_
      refine wr_call (wc := [aI cy (ma 5) 496 (mS kp), aI cy (ma 2) 248 (mS σ)]) (va_runS (As := [.ref (ma 5), .int (nI (248 * j9)), .ref (ma 2), .int (nI 0)]) (rest := []) ⟨hx, hb, hml, hown, hts⟩ (c_X8_copyState l g cy (ma 5) (ma 2) H.size 496 248 kp σ (248 * j9) 0 (by omega) (by omega) (by omega) (by omega)) ⟨(cB 4 hts wd23_3 wd1_5 wd23_1 rfl rfl (by decide +kernel) ⟨Nat.le_of_ble_eq_true rfl, Nat.le_of_ble_eq_true rfl⟩), hts _ wd23_2⟩ (ps hK hP hD hS hA hX [5, 2] rfl rfl) rfl rfl hl.1 rfl (lv_room (Nat.le_of_ble_eq_true rfl)) dX8_restore_51 ⟨Nat.zero_le _, Nat.zero_le _⟩) hP hD hS hA [5, 2] rfl rfl (fun _ => (rfl : ([ma 5, ma 2] : List Nat) = [ma 5, ma 2])) ?_
      rintro _u9 H locs - hP hD hS
      have hP : va_P g vwCl [(ma 0, .inr (6, [.int (nI (rkm 1 0 2 (fRes fl (nI j9)))), .ref (ma 1), .int (nI ln), .ref (ma 2), .ref (ma 3), .ref (ma 4), .int (nI n), .ref (ma 5), .ref (ma 6), .ref (ma 7), .ref (ma 8), .int (nI sp), .int (nI ou)])), aI cy (ma 1) 120 (mS tx), aI cy (ma 2) 248 (mS (cpS kp σ (248 * j9) 0 248)), aI cy (ma 3) 248 (mS tr), aI cy (ma 4) 3472 (mS dy), aI cy (ma 5) 496 (mS kp), aZ cy (ma 6) 2 (fun j => bI (fl j)), aI cy (ma 7) 144 (mS wy), aI cy (ma 8) 8 (mS hp)] H := hP
      have hD : va_D A [(ma 0, .inr (6, [.int (nI (rkm 1 0 2 (fRes fl (nI j9)))), .ref (ma 1), .int (nI ln), .ref (ma 2), .ref (ma 3), .ref (ma 4), .int (nI n), .ref (ma 5), .ref (ma 6), .ref (ma 7), .ref (ma 8), .int (nI sp), .int (nI ou)])), aI cy (ma 1) 120 (mS tx), aI cy (ma 2) 248 (mS (cpS kp σ (248 * j9) 0 248)), aI cy (ma 3) 248 (mS tr), aI cy (ma 4) 3472 (mS dy), aI cy (ma 5) 496 (mS kp), aZ cy (ma 6) 2 (fun j => bI (fl j)), aI cy (ma 7) 144 (mS wy), aI cy (ma 8) 8 (mS hp)] := hD
      show W _ _ _ _ _ _ _ _ _ _ _ _ _ _ _ (F0 mX 54 ls [])
      obtain ⟨hP, hD⟩ := arr_c (mS (K j9)) hP hD 2 rfl (fun j hj => cp_st (hkp j9 hj9 hfj) hj)
      have hP : va_P g vwCl [(ma 0, .inr (6, [.int (nI (rkm 1 0 2 (fRes fl (nI j9)))), .ref (ma 1), .int (nI ln), .ref (ma 2), .ref (ma 3), .ref (ma 4), .int (nI n), .ref (ma 5), .ref (ma 6), .ref (ma 7), .ref (ma 8), .int (nI sp), .int (nI ou)])), aI cy (ma 1) 120 (mS tx), aI cy (ma 2) 248 (mS (K j9)), aI cy (ma 3) 248 (mS tr), aI cy (ma 4) 3472 (mS dy), aI cy (ma 5) 496 (mS kp), aZ cy (ma 6) 2 (fun j => bI (fl j)), aI cy (ma 7) 144 (mS wy), aI cy (ma 8) 8 (mS hp)] H := hP
      have hD : va_D A [(ma 0, .inr (6, [.int (nI (rkm 1 0 2 (fRes fl (nI j9)))), .ref (ma 1), .int (nI ln), .ref (ma 2), .ref (ma 3), .ref (ma 4), .int (nI n), .ref (ma 5), .ref (ma 6), .ref (ma 7), .ref (ma 8), .int (nI sp), .int (nI ou)])), aI cy (ma 1) 120 (mS tx), aI cy (ma 2) 248 (mS (K j9)), aI cy (ma 3) 248 (mS tr), aI cy (ma 4) 3472 (mS dy), aI cy (ma 5) 496 (mS kp), aZ cy (ma 6) 2 (fun j => bI (fl j)), aI cy (ma 7) 144 (mS wy), aI cy (ma 8) 8 (mS hp)] := hD
      refine lv_aload_n hx hb dX8_restore_54 rfl (lv_at hl 0 rfl) ?_
      refine lv_iconst (v := (nI 0)) hx hb dX8_restore_55 (by decide) ?_
      refine va_put (D := g) (ci := 6) (v := .int (nI 0)) (ty := .int) (C := RX8) (T := TX8) (N := 13) hx hb hts bgX8 tyX8 tyX8_ok nmX8 hown hK hP hD hS 0 rfl rfl 6 (by decide) (hts _ wd23_0) (fun _ h9 => h9) rfl (by decide +kernel) rfl rfl (Nat.le_of_ble_eq_true rfl) dX8_restore_56 (fun H locs hP hD hS => ?_)
      have hP : va_P g vwCl [(ma 0, .inr (6, [.int (nI (rkm 1 0 2 (fRes fl (nI j9)))), .ref (ma 1), .int (nI ln), .ref (ma 2), .ref (ma 3), .ref (ma 4), .int (nI 0), .ref (ma 5), .ref (ma 6), .ref (ma 7), .ref (ma 8), .int (nI sp), .int (nI ou)])), aI cy (ma 1) 120 (mS tx), aI cy (ma 2) 248 (mS (K j9)), aI cy (ma 3) 248 (mS tr), aI cy (ma 4) 3472 (mS dy), aI cy (ma 5) 496 (mS kp), aZ cy (ma 6) 2 (fun j => bI (fl j)), aI cy (ma 7) 144 (mS wy), aI cy (ma 8) 8 (mS hp)] H := hP
      have hD : va_D A [(ma 0, .inr (6, [.int (nI (rkm 1 0 2 (fRes fl (nI j9)))), .ref (ma 1), .int (nI ln), .ref (ma 2), .ref (ma 3), .ref (ma 4), .int (nI 0), .ref (ma 5), .ref (ma 6), .ref (ma 7), .ref (ma 8), .int (nI sp), .int (nI ou)])), aI cy (ma 1) 120 (mS tx), aI cy (ma 2) 248 (mS (K j9)), aI cy (ma 3) 248 (mS tr), aI cy (ma 4) 3472 (mS dy), aI cy (ma 5) 496 (mS kp), aZ cy (ma 6) 2 (fun j => bI (fl j)), aI cy (ma 7) 144 (mS wy), aI cy (ma 8) 8 (mS hp)] := hD
      refine lv_aload_n hx hb dX8_restore_59 rfl (lv_at hl 0 rfl) ?_
      refine va_get (D := g) (ci := 6) (v := .ref (ma 2)) (C := RX8) (T := TX8) (N := 13) hx hb hts bgX8 hown hK hP 0 rfl rfl 3 (by decide) (hts _ wd5_21) (fun _ h9 => h9) rfl dX8_restore_60 ?_
      refine lv_iconst (v := (nI 2)) hx hb dX8_restore_63 (by decide) ?_
      refine va_iald hx hb hK hP 2 0 rfl rfl (vp_in_nI (n := 2) (by omega) (by omega)) dX8_restore_64 ?_
      refine ti (show (mS (K j9)) (nI 2).toNatClampNeg = nI ((K j9) 2) from by rw [nI_clamp (by omega)]; rfl) ?_
      exact wr_i (tr, dy, kp, wy, hp, sp, ou, rkm 1 0 2 (fRes fl (nI j9))) (by rw [if_pos c_32, nI_clamp (by omega)]) ⟨rfl, (by simp only [if_pos c_32, nI_clamp (show j9 < 2 ^ 31 by omega)]; exact ⟨(hwk j9 hj9 hfj), (Nat.zero_le _), (fun k hk => absurd hk (Nat.not_lt_zero _)), hkp, htx, hln⟩)⟩ (by simp only [if_pos c_32, nI_clamp (show j9 < 2 ^ 31 by omega)]; exact hP) hS hx hb hr dX8_restore_65 hlk
    · have c_32 := (bI_ne0.mp c_32)
      have c_32 : ¬ fRes fl vs = 0 := fun e => by rw [e] at c_32; exact absurd c_32 (by decide)
      refine lv_iconst (v := (nI 0)) hx hb dX8_restore_35 (by decide) ?_
      exact wr_i (tr, dy, kp, wy, hp, sp, ou, rkm 1 0 2 (fRes fl vs)) (by rw [if_neg c_32]) ⟨rfl, (by simp only [if_neg c_32]; exact ⟨hwf, hn14, hdy, hkp, htx, hln⟩)⟩ (by simp only [if_neg c_32]; exact hP) hS hx hb hr dX8_restore_36 hlk
  · skip
    refine lv_iload_n hx hb dX8_restore_1 rfl (lv_at hl 1 rfl) ?_
    refine lv_i2l (v := vs.toInt64) hx hb dX8_restore_2 rfl ?_
    refine lv_lconst (v := 0) hx hb dX8_restore_3 rfl ?_
    refine lv_lconst (v := 1) hx hb dX8_restore_4 rfl ?_
    refine rd_call (va_runS (As := [.long vs.toInt64, .long (0 : Int64), .long (1 : Int64)]) (rest := [.ref (ma 0)]) ⟨hx, hb, hml, hown, hts⟩ (c_X8_in l vs.toInt64 (0 : Int64) (1 : Int64) ) ⟨(cB 3 hts wd7_17 wd1_5 wd7_15 rfl rfl (by decide +kernel) ⟨Nat.le_of_ble_eq_true rfl, Nat.le_of_ble_eq_true rfl⟩), hts _ wd7_16⟩ p0 rfl rfl hl.1 rfl (lv_room (Nat.le_of_ble_eq_true rfl)) dX8_restore_5 ⟨Nat.zero_le _, Nat.zero_le _⟩) ?_
    show W _ _ _ _ _ _ _ _ _ _ _ _ _ _ _ (F0 mX 8 ls [.int (bI (inL vs.toInt64 (0 : Int64) (1 : Int64))), .ref (ma 0)])
    refine ti (show (bI (inL vs.toInt64 (0 : Int64) (1 : Int64))) = (bI (hasR 2 vs)) from (congrArg bI ((inL_c (a := 0) (b := 1) (by decide) (by decide)).trans (hasR_in (k := 1) (by decide)).symm))) ?_
    refine lv_if_ne (tgt := 15) hx hb dX8_restore_8 (by decide) (fun c_8 => ?_) (fun c_8 => ?_)
    · have c_8 := (bI_ne0.mp c_8)
      obtain ⟨j9, hj9, rfl⟩ := hasR_ex (by decide) c_8
      refine lv_aload_n hx hb dX8_restore_15 rfl (lv_at hl 0 rfl) ?_
      refine va_get (D := g) (ci := 6) (v := .ref (ma 6)) (C := RX8) (T := TX8) (N := 13) hx hb hts bgX8 hown hK hP 0 rfl rfl 8 (by decide) (hts _ wd6_1) (fun _ h9 => h9) rfl dX8_restore_16 ?_
      refine lv_iload_n hx hb dX8_restore_19 rfl (lv_at hl 1 rfl) ?_
      refine va_zald hx hb hK hP 6 1 rfl rfl (vp_in_nI (n := j9) (by omega) (by omega)) dX8_restore_20 ?_
      refine ti (show (fun j => bI (fl j)) (nI j9).toNatClampNeg = (fun j => bI (fl j)) j9 from by rw [nI_clamp (by omega)]) ?_
      refine ti (show ((fun j => bI (fl j)) j9) = (bI (fl j9)) from rfl) ?_
      refine lv_if_ne (tgt := 28) hx hb dX8_restore_21 (by decide) (fun c_21 => ?_) (fun c_21 => ?_)
      · have c_21 := (bI_ne0.mp c_21)
        refine lv_iconst (v := (nI 0)) hx hb dX8_restore_28 (by decide) ?_
        exact jn29 _ (congrArg nI (by simp [rkm, fRes, c_8, c_21, nI_clamp (show j9 < 2 ^ 31 by omega)]))
      · have c_21 := (bI_eq0.mp c_21)
        refine lv_iconst (v := (nI 2)) hx hb dX8_restore_24 (by decide) ?_
        refine lv_goto (tgt := 29) hx hb dX8_restore_25 (by decide) ?_
        exact jn29 _ (congrArg nI (by simp [rkm, fRes, c_8, c_21, nI_clamp (show j9 < 2 ^ 31 by omega)]))
    · have c_8 := (bI_eq0.mp c_8)
      refine lv_iconst (v := (nI 1)) hx hb dX8_restore_11 (by decide) ?_
      refine lv_goto (tgt := 29) hx hb dX8_restore_12 (by decide) ?_
      exact jn29 _ (congrArg nI (by simp [rkm, fRes, c_8]))
