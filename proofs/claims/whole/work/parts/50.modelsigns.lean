set_option maxHeartbeats 4000000 in
set_option maxRecDepth 100000 in
theorem c_X8_figures (l : Launch) (g : va_G) (cy : Nat → ClassId) (mo a1 a2 a3 a4 a5 a6 mw mh : Nat) (sz : Nat) (rf : Nat) (ln : Nat) (ac : Nat) (p : Nat) (ou : Nat) (tx : Nat → Nat) (v0 : Nat) (dgs : Nat) (u9 : Nat) (lo : Nat) (hi : Nat) (htx : ∀ i9, tx i9 < 256) (hln : ln ≤ 120) (hpp : p ≤ 1000) (hv0 : (v0 = NN ∨ v0 ≤ 501) ∧ v0 < 2 ^ 32) (hdg : 1 ≤ dgs) (hdg3 : dgs ≤ 3) (hu9 : u9 = 10 ^ (dgs - 1)) (hhi : hi ≤ 500) (hlo : lo ≤ 500) : Met l yX8_figures (Cond.code yX8_figures cX8_figures 9 (some .int) :: wsL_law) ({ frames := 1, cells := 0, slots := 0, locals := 25 } : Room) (va_Pc [.ref mo, .int (nI v0), .int (nI u9), .int (nI lo), .int (nI hi)] (pr g cy [(mo, .inr (6, [.int (nI rf), .ref a1, .int (nI ln), .ref a2, .ref a3, .ref a4, .int (nI ac), .ref a5, .ref a6, .ref mw, .ref mh, .int (nI p), .int (nI ou)])), aI cy a1 120 (mS tx)] sz)) (wr_Q (fun r : Nat × Nat => (some (.int (nI r.1)))) (fun r : Nat × Nat => (r = fgF tx ln v0 dgs lo hi p)) (fun r : Nat × Nat => [(mo, .inr (6, [.int (nI rf), .ref a1, .int (nI ln), .ref a2, .ref a3, .ref a4, .int (nI ac), .ref a5, .ref a6, .ref mw, .ref mh, .int (nI r.2), .int (nI ou)])), aI cy a1 120 (mS tx)]) g (va_A [(mo, .inr (6, [.int (nI rf), .ref a1, .int (nI ln), .ref a2, .ref a3, .ref a4, .int (nI ac), .ref a5, .ref a6, .ref mw, .ref mh, .int (nI p), .int (nI ou)])), aI cy a1 120 (mS tx)] sz)) 0 0 (va_A [(mo, .inr (6, [.int (nI rf), .ref a1, .int (nI ln), .ref a2, .ref a3, .ref a4, .int (nI ac), .ref a5, .ref a6, .ref mw, .ref mh, .int (nI p), .int (nI ou)])), aI cy a1 120 (mS tx)] sz) := by
  refine mt_of (cc := cX8_figures) (maxL := 9) (ret := (some .int)) (by decide +kernel) (Nat.le_of_ble_eq_true rfl) ?_
  intro pX eX s mX below meth cX ls A hx hb hr hml hown hts hlk hin hsz hAe hA hP hD hK hX hl
  subst hsz
  rw [← hAe]
  clear hAe
  have hl : lv_has ls 9 [(0, .ref mo), (1, .int (nI v0)), (2, .int (nI u9)), (3, .int (nI lo)), (4, .int (nI hi))] := hl
  have hS : va_S A s.heap s.heap [] := va_S.rf
  refine lv_iconst (v := (nI 0)) hx hb dX8_figures_0 (by decide) ?_
  refine lv_istore (lv' := [(5, .int (nI 0)), (0, .ref mo), (1, .int (nI v0)), (2, .int (nI u9)), (3, .int (nI lo)), (4, .int (nI hi))]) hx hb dX8_figures_1 hl (by decide) rfl (fun ls hl => ?_)
  refine lv_iload_n hx hb dX8_figures_3 rfl (lv_at hl 3 rfl) ?_
  refine lv_istore (lv' := [(6, .int (nI u9)), (5, .int (nI 0)), (0, .ref mo), (1, .int (nI v0)), (2, .int (nI u9)), (3, .int (nI lo)), (4, .int (nI hi))]) hx hb dX8_figures_4 hl (by decide) rfl (fun ls hl => ?_)
  have hl : lv_has ls 9 [(6, .int (nI (un dgs))), (5, .int (nI 0)), (0, .ref mo), (1, .int (nI v0)), (2, .int (nI u9)), (3, .int (nI lo)), (4, .int (nI hi))] := by rw [← show (nI u9) = (nI (un dgs)) from (congrArg nI (by rw [hu9]; cases dgs with | zero => omega | succ k => rfl))]; exact hl
  refine lp_rule (σ := (Nat) × (Nat) × (Nat)) (fun x9 H9 locs9 ls9 => va_P g vwCl [(mo, .inr (6, [.int (nI rf), .ref a1, .int (nI ln), .ref a2, .ref a3, .ref a4, .int (nI ac), .ref a5, .ref a6, .ref mw, .ref mh, .int (nI x9.2.2), .int (nI ou)])), aI cy a1 120 (mS tx)] H9 ∧ va_D A [(mo, .inr (6, [.int (nI rf), .ref a1, .int (nI ln), .ref a2, .ref a3, .ref a4, .int (nI ac), .ref a5, .ref a6, .ref mw, .ref mh, .int (nI x9.2.2), .int (nI ou)])), aI cy a1 120 (mS tx)] ∧ va_S A s.heap H9 locs9 ∧ lv_has ls9 9 [(0, .ref mo), (1, .int (nI v0)), (2, .int (nI u9)), (3, .int (nI lo)), (4, .int (nI hi)), (5, .int (nI x9.2.1)), (6, .int (nI (un x9.1)))] ∧ (x9.1 ≤ dgs) ∧ (x9.2.1 ≤ hi) ∧ (x9.2.2 ≤ p + (dgs - x9.1)) ∧ (v0 = NN → x9.2.2 = p) ∧ (v0 ≠ NN → numF tx ln lo hi x9.1 x9.2.1 x9.2.2 = numF tx ln lo hi dgs 0 p)) (fun x9 => x9.1) (dgs, 0, p) ⟨hP, hD, hS, lv_sub hl [2, 3, 4, 5, 6, 1, 0] rfl, (Nat.le_refl _), (Nat.zero_le _), (Nat.le_add_right _ _), (fun _ => rfl), (fun _ => rfl)⟩ ?_
  rintro ⟨k, v, q⟩ H locs ls ⟨hP, hD, hS, hl, hk, hv, hq, hsp, hnv⟩ ih6
  try dsimp only at hl hk hv hq hsp hnv hP hD ih6
  refine lv_iload hx hb dX8_figures_6 (lv_at hl 6 rfl) ?_
  have hun := un_lt (show k ≤ 3 by omega)
  refine lv_if_le (tgt := 112) hx hb dX8_figures_8 (by decide) (fun c_8 => ?_) (fun c_8 => ?_)
  · have c_8 := (nz_le' c_8 (by omega))
    have c_8 : k = 0 := un_z (by omega)
    refine lv_iload_n hx hb dX8_figures_112 rfl (lv_at hl 1 rfl) ?_
    refine lv_iconst (v := (nI NN)) hx hb dX8_figures_113 (by decide) ?_
    refine lv_icmp_ne (tgt := 121) hx hb dX8_figures_114 (by decide) (fun c_114 => ?_) (fun c_114 => ?_)
    · have c_114 := (nc_ne9 (by omega) (by decide) c_114)
      refine lv_iload hx hb dX8_figures_121 (lv_at hl 5 rfl) ?_
      subst c_8
      have hnn : numF tx ln lo hi dgs 0 p = (true, v, q) := by rw [← hnv c_114]; rfl
      have hfin : fgF tx ln v0 dgs lo hi p = (v, q) := by rw [fgF_n c_114, show itF tx ln dgs lo hi p = numF tx ln lo hi dgs 0 p from if_neg (by omega), hnn]; rfl
      exact wr_i (fgF tx ln v0 dgs lo hi p) (by rw [hfin]) rfl (by rw [hfin]; exact hP) hS hx hb hr dX8_figures_123 hlk
    · have c_114 := (nc_eq9 (by omega) (by decide) c_114)
      refine lv_iconst (v := (nI NN)) hx hb dX8_figures_117 (by decide) ?_
      refine lv_goto (tgt := 123) hx hb dX8_figures_118 (by decide) ?_
      have hfin : fgF tx ln v0 dgs lo hi p = (NN, q) := by rw [c_114, fgF_NN, hsp c_114]
      exact wr_i (fgF tx ln v0 dgs lo hi p) (by rw [hfin]) rfl (by rw [hfin]; exact hP) hS hx hb hr dX8_figures_123 hlk
  · have c_8 := (nz_gt' c_8 (by omega))
    have c_8 : 0 < k := un_p (by omega)
    refine lv_iload_n hx hb dX8_figures_11 rfl (lv_at hl 1 rfl) ?_
    refine lv_iconst (v := (nI NN)) hx hb dX8_figures_12 (by decide) ?_
    refine lv_icmp_eq (tgt := 112) hx hb dX8_figures_13 (by decide) (fun c_13 => ?_) (fun c_13 => ?_)
    · have c_13 := (nc_eq9 (by omega) (by decide) c_13)
      refine lv_iload_n hx hb dX8_figures_112 rfl (lv_at hl 1 rfl) ?_
      refine lv_iconst (v := (nI NN)) hx hb dX8_figures_113 (by decide) ?_
      refine lv_icmp_ne (tgt := 121) hx hb dX8_figures_114 (by decide) (fun c_114 => ?_) (fun c_114 => ?_)
      · have c_114 := (nc_ne9 (by omega) (by decide) c_114)
        exact absurd c_13 c_114
      · have c_114 := (nc_eq9 (by omega) (by decide) c_114)
        refine lv_iconst (v := (nI NN)) hx hb dX8_figures_117 (by decide) ?_
        refine lv_goto (tgt := 123) hx hb dX8_figures_118 (by decide) ?_
        have hfin : fgF tx ln v0 dgs lo hi p = (NN, q) := by rw [c_114, fgF_NN, hsp c_114]
        exact wr_i (fgF tx ln v0 dgs lo hi p) (by rw [hfin]) rfl (by rw [hfin]; exact hP) hS hx hb hr dX8_figures_123 hlk
    · have c_13 := (nc_ne9 (by omega) (by decide) c_13)
      obtain ⟨k, rfl⟩ : ∃ k1, k = k1 + 1 := ⟨k - 1, by omega⟩
      have hp10 := p10_le2 (show k ≤ 2 by omega)
      have hp11 := p10_pos k
      have htx9 := htx q
      have hmul : (tx q - 48) * 10 ^ k ≤ 255 * 100 := Nat.mul_le_mul (by omega) hp10
      have hl : lv_has ls 9 [(0, .ref mo), (1, .int (nI v0)), (2, .int (nI u9)), (3, .int (nI lo)), (4, .int (nI hi)), (5, .int (nI v)), (6, .int (nI (10 ^ k)))] := by rw [← show (nI (un (k + 1))) = (nI (10 ^ k)) from rfl]; exact hl
      refine lv_aload_n hx hb dX8_figures_16 rfl (lv_at hl 0 rfl) ?_
      refine va_get (D := g) (ci := 6) (v := .int (nI q)) (C := RX8) (T := TX8) (N := 13) hx hb hts bgX8 hown hK hP 0 rfl rfl 11 (by decide) (hts _ wd10_23) (fun _ h9 => h9) rfl dX8_figures_17 ?_
      refine lv_aload_n hx hb dX8_figures_20 rfl (lv_at hl 0 rfl) ?_
      refine va_get (D := g) (ci := 6) (v := .int (nI ln)) (C := RX8) (T := TX8) (N := 13) hx hb hts bgX8 hown hK hP 0 rfl rfl 2 (by decide) (hts _ wd7_14) (fun _ h9 => h9) rfl dX8_figures_21 ?_
      refine lv_icmp_ge (tgt := 42) hx hb dX8_figures_24 (by decide) (fun c_24 => ?_) (fun c_24 => ?_)
      · have c_24 := (nc_le (by omega) (by omega) c_24)
        refine lv_iconst (v := (nI NN)) hx hb dX8_figures_42 (by decide) ?_
        refine lv_istore (lv' := [(7, .int (nI NN)), (0, .ref mo), (1, .int (nI v0)), (2, .int (nI u9)), (3, .int (nI lo)), (4, .int (nI hi)), (5, .int (nI v)), (6, .int (nI (10 ^ k)))]) hx hb dX8_figures_43 hl (by decide) rfl (fun ls hl => ?_)
        refine lv_iload hx hb dX8_figures_45 (lv_at hl 6 rfl) ?_
        refine lv_iload hx hb dX8_figures_47 (lv_at hl 0 rfl) ?_
        refine lv_iload hx hb dX8_figures_49 (lv_at hl 7 rfl) ?_
        refine lv_imul hx hb dX8_figures_51 ?_
        refine ti (pk_mul NN (10 ^ k)) ?_
        refine lv_iadd hx hb dX8_figures_52 ?_
        refine ti (nI_add v (NN * (10 ^ k))) ?_
        refine lv_istore (lv' := [(8, .int (nI (v + (NN * (10 ^ k))))), (7, .int (nI NN)), (0, .ref mo), (1, .int (nI v0)), (2, .int (nI u9)), (3, .int (nI lo)), (4, .int (nI hi)), (5, .int (nI v)), (6, .int (nI (10 ^ k)))]) hx hb dX8_figures_53 hl (by decide) rfl (fun ls hl => ?_)
        refine lv_iload hx hb dX8_figures_55 (lv_at hl 1 rfl) ?_
        refine lv_i2l (v := (nI NN).toInt64) hx hb dX8_figures_57 rfl ?_
        refine lv_lconst (v := 0) hx hb dX8_figures_58 rfl ?_
        refine lv_ldc2 hx hb hown (hts _ wd11_12) dX8_figures_59 ?_
        refine rd_call (va_runS (As := [.long ((nI NN).toInt64), .long (0 : Int64), .long (9 : Int64)]) (rest := []) ⟨hx, hb, hml, hown, hts⟩ (c_X8_in l ((nI NN).toInt64) (0 : Int64) (9 : Int64) ) ⟨(cB 3 hts wd7_17 wd1_5 wd7_15 rfl rfl (by decide +kernel) ⟨Nat.le_of_ble_eq_true rfl, Nat.le_of_ble_eq_true rfl⟩), hts _ wd7_16⟩ p0 rfl rfl hl.1 rfl (lv_room (Nat.le_of_ble_eq_true rfl)) dX8_figures_62 ⟨Nat.zero_le _, Nat.zero_le _⟩) ?_
        show W _ _ _ _ _ _ _ _ _ _ _ _ _ _ _ (F0 mX 65 ls [.int (bI (inL ((nI NN).toInt64) (0 : Int64) (9 : Int64)))])
        refine ti (show (bI (inL ((nI NN).toInt64) (0 : Int64) (9 : Int64))) = (bI false) from ((congrArg bI (inL_c (a := 0) (b := 9) (by decide) (by decide))).trans (congrArg bI ((by decide))))) ?_
        refine lv_if_eq (tgt := 86) hx hb dX8_figures_65 (by decide) (fun c_65 => ?_) (fun c_65 => ?_)
        · have c_65 := (bI_eq0.mp c_65)
          refine lv_iconst (v := (nI NN)) hx hb dX8_figures_86 (by decide) ?_
          have hnn : numF tx ln lo hi dgs 0 p = (false, v, q) := by rw [← hnv c_13]; exact numF_no (by omega)
          have hfin : fgF tx ln v0 dgs lo hi p = (NN, q) := by rw [fgF_n c_13, show itF tx ln dgs lo hi p = numF tx ln lo hi dgs 0 p from if_neg (by omega), hnn]; rfl
          exact wr_i (fgF tx ln v0 dgs lo hi p) (by rw [hfin]) rfl (by rw [hfin]; exact hP) hS hx hb hr dX8_figures_87 hlk
        · have c_65 := (bI_ne0.mp c_65)
          exact absurd c_65 Bool.false_ne_true
      · have c_24 := (nc_nle (by omega) (by omega) c_24)
        refine lv_aload_n hx hb dX8_figures_27 rfl (lv_at hl 0 rfl) ?_
        refine va_get (D := g) (ci := 6) (v := .ref a1) (C := RX8) (T := TX8) (N := 13) hx hb hts bgX8 hown hK hP 0 rfl rfl 1 (by decide) (hts _ wd5_20) (fun _ h9 => h9) rfl dX8_figures_28 ?_
        refine lv_aload_n hx hb dX8_figures_31 rfl (lv_at hl 0 rfl) ?_
        refine va_get (D := g) (ci := 6) (v := .int (nI q)) (C := RX8) (T := TX8) (N := 13) hx hb hts bgX8 hown hK hP 0 rfl rfl 11 (by decide) (hts _ wd10_23) (fun _ h9 => h9) rfl dX8_figures_32 ?_
        refine va_iald hx hb hK hP 1 0 rfl rfl (vp_in_nI (n := q) (by omega) (by omega)) dX8_figures_35 ?_
        refine ti (show (mS tx) (nI q).toNatClampNeg = nI (tx q) from by rw [nI_clamp (by omega)]; rfl) ?_
        refine lv_bipush (v := (nI 48)) hx hb dX8_figures_36 (by decide) ?_
        refine lv_isub hx hb dX8_figures_38 ?_
        by_cases hdg8 : 48 ≤ tx q
        · refine ti (show ((nI (tx q)) - (nI 48)) = (nI (tx q - 48)) from (pk_sub hdg8)) ?_
          refine lv_goto (tgt := 43) hx hb dX8_figures_39 (by decide) ?_
          refine lv_istore (lv' := [(7, .int (nI (tx q - 48))), (0, .ref mo), (1, .int (nI v0)), (2, .int (nI u9)), (3, .int (nI lo)), (4, .int (nI hi)), (5, .int (nI v)), (6, .int (nI (10 ^ k)))]) hx hb dX8_figures_43 hl (by decide) rfl (fun ls hl => ?_)
          refine lv_iload hx hb dX8_figures_45 (lv_at hl 6 rfl) ?_
          refine lv_iload hx hb dX8_figures_47 (lv_at hl 0 rfl) ?_
          refine lv_iload hx hb dX8_figures_49 (lv_at hl 7 rfl) ?_
          refine lv_imul hx hb dX8_figures_51 ?_
          refine ti (pk_mul (tx q - 48) (10 ^ k)) ?_
          refine lv_iadd hx hb dX8_figures_52 ?_
          refine ti (nI_add v ((tx q - 48) * (10 ^ k))) ?_
          refine lv_istore (lv' := [(8, .int (nI (v + ((tx q - 48) * (10 ^ k))))), (7, .int (nI (tx q - 48))), (0, .ref mo), (1, .int (nI v0)), (2, .int (nI u9)), (3, .int (nI lo)), (4, .int (nI hi)), (5, .int (nI v)), (6, .int (nI (10 ^ k)))]) hx hb dX8_figures_53 hl (by decide) rfl (fun ls hl => ?_)
          refine lv_iload hx hb dX8_figures_55 (lv_at hl 1 rfl) ?_
          refine lv_i2l (v := (nI (tx q - 48)).toInt64) hx hb dX8_figures_57 rfl ?_
          refine lv_lconst (v := 0) hx hb dX8_figures_58 rfl ?_
          refine lv_ldc2 hx hb hown (hts _ wd11_12) dX8_figures_59 ?_
          refine rd_call (va_runS (As := [.long ((nI (tx q - 48)).toInt64), .long (0 : Int64), .long (9 : Int64)]) (rest := []) ⟨hx, hb, hml, hown, hts⟩ (c_X8_in l ((nI (tx q - 48)).toInt64) (0 : Int64) (9 : Int64) ) ⟨(cB 3 hts wd7_17 wd1_5 wd7_15 rfl rfl (by decide +kernel) ⟨Nat.le_of_ble_eq_true rfl, Nat.le_of_ble_eq_true rfl⟩), hts _ wd7_16⟩ p0 rfl rfl hl.1 rfl (lv_room (Nat.le_of_ble_eq_true rfl)) dX8_figures_62 ⟨Nat.zero_le _, Nat.zero_le _⟩) ?_
          show W _ _ _ _ _ _ _ _ _ _ _ _ _ _ _ (F0 mX 65 ls [.int (bI (inL ((nI (tx q - 48)).toInt64) (0 : Int64) (9 : Int64)))])
          refine ti (show (bI (inL ((nI (tx q - 48)).toInt64) (0 : Int64) (9 : Int64))) = (bI (decide (tx q - 48 ≤ 9))) from ((congrArg bI (inL_c (a := 0) (b := 9) (by decide) (by decide))).trans (congrArg bI (in_9 (by omega))))) ?_
          refine lv_if_eq (tgt := 86) hx hb dX8_figures_65 (by decide) (fun c_65 => ?_) (fun c_65 => ?_)
          · have c_65 := (bI_eq0.mp c_65)
            have c_65 : ¬ tx q - 48 ≤ 9 := of_decide_eq_false c_65
            refine lv_iconst (v := (nI NN)) hx hb dX8_figures_86 (by decide) ?_
            have hnn : numF tx ln lo hi dgs 0 p = (false, v, q) := by rw [← hnv c_13]; exact numF_no (by omega)
            have hfin : fgF tx ln v0 dgs lo hi p = (NN, q) := by rw [fgF_n c_13, show itF tx ln dgs lo hi p = numF tx ln lo hi dgs 0 p from if_neg (by omega), hnn]; rfl
            exact wr_i (fgF tx ln v0 dgs lo hi p) (by rw [hfin]) rfl (by rw [hfin]; exact hP) hS hx hb hr dX8_figures_87 hlk
          · have c_65 := (bI_ne0.mp c_65)
            have c_65 : tx q - 48 ≤ 9 := of_decide_eq_true c_65
            refine lv_iload hx hb dX8_figures_68 (lv_at hl 0 rfl) ?_
            refine lv_iload hx hb dX8_figures_70 (lv_at hl 6 rfl) ?_
            refine lv_icmp_gt (tgt := 86) hx hb dX8_figures_72 (by decide) (fun c_72 => ?_) (fun c_72 => ?_)
            · have c_72 := (nc_lt (by omega) (by omega) c_72)
              refine lv_iconst (v := (nI NN)) hx hb dX8_figures_86 (by decide) ?_
              have hnn : numF tx ln lo hi dgs 0 p = (false, v, q) := by rw [← hnv c_13]; exact numF_no (by omega)
              have hfin : fgF tx ln v0 dgs lo hi p = (NN, q) := by rw [fgF_n c_13, show itF tx ln dgs lo hi p = numF tx ln lo hi dgs 0 p from if_neg (by omega), hnn]; rfl
              exact wr_i (fgF tx ln v0 dgs lo hi p) (by rw [hfin]) rfl (by rw [hfin]; exact hP) hS hx hb hr dX8_figures_87 hlk
            · have c_72 := (nc_nlt (by omega) (by omega) c_72)
              refine lv_iload hx hb dX8_figures_75 (lv_at hl 0 rfl) ?_
              refine lv_iload hx hb dX8_figures_77 (lv_at hl 8 rfl) ?_
              refine lv_iadd hx hb dX8_figures_79 ?_
              refine ti (nI_add (v + ((tx q - 48) * (10 ^ k))) (10 ^ k)) ?_
              refine lv_iconst (v := (nI 1)) hx hb dX8_figures_80 (by decide) ?_
              refine lv_isub hx hb dX8_figures_81 ?_
              refine ti (show ((nI ((v + ((tx q - 48) * (10 ^ k))) + (10 ^ k))) - (nI 1)) = (nI (v + (tx q - 48) * 10 ^ k + 10 ^ k - 1)) from (pk_sub (by omega))) ?_
              refine lv_iload_n hx hb dX8_figures_82 rfl (lv_at hl 5 rfl) ?_
              refine lv_icmp_ge (tgt := 88) hx hb dX8_figures_83 (by decide) (fun c_83 => ?_) (fun c_83 => ?_)
              · have c_83 := (nc_le (by omega) (by omega) c_83)
                refine lv_iload hx hb dX8_figures_88 (lv_at hl 0 rfl) ?_
                refine lv_istore (lv' := [(5, .int (nI (v + ((tx q - 48) * (10 ^ k))))), (8, .int (nI (v + ((tx q - 48) * (10 ^ k))))), (7, .int (nI (tx q - 48))), (0, .ref mo), (1, .int (nI v0)), (2, .int (nI u9)), (3, .int (nI lo)), (4, .int (nI hi)), (6, .int (nI (10 ^ k)))]) hx hb dX8_figures_90 hl (by decide) rfl (fun ls hl => ?_)
                refine lv_aload_n hx hb dX8_figures_92 rfl (lv_at hl 3 rfl) ?_
                refine lv_dup hx hb dX8_figures_93 rfl ?_
                refine va_get (D := g) (ci := 6) (v := .int (nI q)) (C := RX8) (T := TX8) (N := 13) hx hb hts bgX8 hown hK hP 0 rfl rfl 11 (by decide) (hts _ wd10_23) (fun _ h9 => h9) rfl dX8_figures_94 ?_
                refine lv_iconst (v := (nI 1)) hx hb dX8_figures_97 (by decide) ?_
                refine lv_iadd hx hb dX8_figures_98 ?_
                refine ti (nI_add q 1) ?_
                refine va_put (D := g) (ci := 6) (v := .int (nI (q + 1))) (ty := .int) (C := RX8) (T := TX8) (N := 13) hx hb hts bgX8 tyX8 tyX8_ok nmX8 hown hK hP hD hS 0 rfl rfl 11 (by decide) (hts _ wd10_23) (fun _ h9 => h9) rfl (by decide +kernel) rfl rfl (Nat.le_of_ble_eq_true rfl) dX8_figures_99 (fun H locs hP hD hS => ?_)
                have hP : va_P g vwCl [(mo, .inr (6, [.int (nI rf), .ref a1, .int (nI ln), .ref a2, .ref a3, .ref a4, .int (nI ac), .ref a5, .ref a6, .ref mw, .ref mh, .int (nI (q + 1)), .int (nI ou)])), aI cy a1 120 (mS tx)] H := hP
                have hD : va_D A [(mo, .inr (6, [.int (nI rf), .ref a1, .int (nI ln), .ref a2, .ref a3, .ref a4, .int (nI ac), .ref a5, .ref a6, .ref mw, .ref mh, .int (nI (q + 1)), .int (nI ou)])), aI cy a1 120 (mS tx)] := hD
                refine lv_iload hx hb dX8_figures_102 (lv_at hl 8 rfl) ?_
                refine lv_bipush (v := (nI 10)) hx hb dX8_figures_104 (by decide) ?_
                refine lv_idiv hx hb dX8_figures_106 (nI_ne0 (by omega) (by omega)) ?_
                refine ti (pk_div (a := (10 ^ k)) (d := 10) (by omega) (by omega) (by omega)) ?_
                refine lv_istore (lv' := [(6, .int (nI ((10 ^ k) / 10))), (5, .int (nI (v + ((tx q - 48) * (10 ^ k))))), (8, .int (nI (v + ((tx q - 48) * (10 ^ k))))), (7, .int (nI (tx q - 48))), (0, .ref mo), (1, .int (nI v0)), (2, .int (nI u9)), (3, .int (nI lo)), (4, .int (nI hi))]) hx hb dX8_figures_107 hl (by decide) rfl (fun ls hl => ?_)
                have hl : lv_has ls 9 [(6, .int (nI (un k))), (5, .int (nI (v + ((tx q - 48) * (10 ^ k))))), (8, .int (nI (v + ((tx q - 48) * (10 ^ k))))), (7, .int (nI (tx q - 48))), (0, .ref mo), (1, .int (nI v0)), (2, .int (nI u9)), (3, .int (nI lo)), (4, .int (nI hi))] := by rw [← show (nI ((10 ^ k) / 10)) = (nI (un k)) from (congrArg nI (un_d k))]; exact hl
                refine lv_goto (tgt := 6) hx hb dX8_figures_109 (by decide) ?_
                exact ih6 (k, v + (tx q - 48) * 10 ^ k, q + 1) H locs ls ⟨hP, hD, hS, lv_sub hl [4, 5, 6, 7, 8, 1, 0] rfl, (by dsimp only; omega), (by dsimp only; omega), (by dsimp only; omega), (fun e => absurd e c_13), (fun e => by rw [← hnv e]; exact (numF_yes (k := k) (v := v) (p := q) (by omega)).symm)⟩ (by first | omega | (dsimp only; omega))
              · have c_83 := (nc_nle (by omega) (by omega) c_83)
                refine lv_iconst (v := (nI NN)) hx hb dX8_figures_86 (by decide) ?_
                have hnn : numF tx ln lo hi dgs 0 p = (false, v, q) := by rw [← hnv c_13]; exact numF_no (by omega)
                have hfin : fgF tx ln v0 dgs lo hi p = (NN, q) := by rw [fgF_n c_13, show itF tx ln dgs lo hi p = numF tx ln lo hi dgs 0 p from if_neg (by omega), hnn]; rfl
                exact wr_i (fgF tx ln v0 dgs lo hi p) (by rw [hfin]) rfl (by rw [hfin]; exact hP) hS hx hb hr dX8_figures_87 hlk
        · refine ti (show ((nI (tx q)) - (nI 48)) = ((nI (tx q)) - (nI 48)) from rfl) ?_
          refine lv_goto (tgt := 43) hx hb dX8_figures_39 (by decide) ?_
          refine lv_istore (lv' := [(7, .int ((nI (tx q)) - (nI 48))), (0, .ref mo), (1, .int (nI v0)), (2, .int (nI u9)), (3, .int (nI lo)), (4, .int (nI hi)), (5, .int (nI v)), (6, .int (nI (10 ^ k)))]) hx hb dX8_figures_43 hl (by decide) rfl (fun ls hl => ?_)
          refine lv_iload hx hb dX8_figures_45 (lv_at hl 6 rfl) ?_
          refine lv_iload hx hb dX8_figures_47 (lv_at hl 0 rfl) ?_
          refine lv_iload hx hb dX8_figures_49 (lv_at hl 7 rfl) ?_
          refine lv_imul hx hb dX8_figures_51 ?_
          refine lv_iadd hx hb dX8_figures_52 ?_
          refine lv_istore (lv' := [(8, .int ((nI v) + (((nI (tx q)) - (nI 48)) * (nI (10 ^ k))))), (7, .int ((nI (tx q)) - (nI 48))), (0, .ref mo), (1, .int (nI v0)), (2, .int (nI u9)), (3, .int (nI lo)), (4, .int (nI hi)), (5, .int (nI v)), (6, .int (nI (10 ^ k)))]) hx hb dX8_figures_53 hl (by decide) rfl (fun ls hl => ?_)
          refine lv_iload hx hb dX8_figures_55 (lv_at hl 1 rfl) ?_
          refine lv_i2l (v := ((nI (tx q)) - (nI 48)).toInt64) hx hb dX8_figures_57 rfl ?_
          refine lv_lconst (v := 0) hx hb dX8_figures_58 rfl ?_
          refine lv_ldc2 hx hb hown (hts _ wd11_12) dX8_figures_59 ?_
          refine rd_call (va_runS (As := [.long (((nI (tx q)) - (nI 48)).toInt64), .long (0 : Int64), .long (9 : Int64)]) (rest := []) ⟨hx, hb, hml, hown, hts⟩ (c_X8_in l (((nI (tx q)) - (nI 48)).toInt64) (0 : Int64) (9 : Int64) ) ⟨(cB 3 hts wd7_17 wd1_5 wd7_15 rfl rfl (by decide +kernel) ⟨Nat.le_of_ble_eq_true rfl, Nat.le_of_ble_eq_true rfl⟩), hts _ wd7_16⟩ p0 rfl rfl hl.1 rfl (lv_room (Nat.le_of_ble_eq_true rfl)) dX8_figures_62 ⟨Nat.zero_le _, Nat.zero_le _⟩) ?_
          show W _ _ _ _ _ _ _ _ _ _ _ _ _ _ _ (F0 mX 65 ls [.int (bI (inL (((nI (tx q)) - (nI 48)).toInt64) (0 : Int64) (9 : Int64)))])
          refine ti (show (bI (inL (((nI (tx q)) - (nI 48)).toInt64) (0 : Int64) (9 : Int64))) = (bI false) from ((congrArg bI (inL_c (a := 0) (b := 9) (by decide) (by decide))).trans (congrArg bI (fg_neg _ (by omega))))) ?_
          refine lv_if_eq (tgt := 86) hx hb dX8_figures_65 (by decide) (fun c_65 => ?_) (fun c_65 => ?_)
          · have c_65 := (bI_eq0.mp c_65)
            refine lv_iconst (v := (nI NN)) hx hb dX8_figures_86 (by decide) ?_
            have hnn : numF tx ln lo hi dgs 0 p = (false, v, q) := by rw [← hnv c_13]; exact numF_no (by omega)
            have hfin : fgF tx ln v0 dgs lo hi p = (NN, q) := by rw [fgF_n c_13, show itF tx ln dgs lo hi p = numF tx ln lo hi dgs 0 p from if_neg (by omega), hnn]; rfl
            exact wr_i (fgF tx ln v0 dgs lo hi p) (by rw [hfin]) rfl (by rw [hfin]; exact hP) hS hx hb hr dX8_figures_87 hlk
          · have c_65 := (bI_ne0.mp c_65)
            exact absurd c_65 Bool.false_ne_true
set_option maxHeartbeats 4000000 in
set_option maxRecDepth 100000 in
theorem c_X8_plusSign (l : Launch) (g : va_G) (cy : Nat → ClassId) (mo a1 a2 a3 a4 a5 a6 mw mh : Nat) (sz : Nat) (rf : Nat) (ln : Nat) (ac : Nat) (p : Nat) (ou : Nat) (tx : Nat → Nat) (v0 : Nat) (htx : ∀ i9, tx i9 < 256) (hln : ln ≤ 120) (hpp : p ≤ 1000) (hv0 : (v0 = NN ∨ v0 ≤ 501) ∧ v0 < 2 ^ 32) : Met l yX8_plusSign (Cond.code yX8_plusSign cX8_plusSign 4 (some .int) :: wsL_law) ({ frames := 0, cells := 0, slots := 0, locals := 0 } : Room) (va_Pc [.ref mo, .int (nI v0)] (pr g cy [(mo, .inr (6, [.int (nI rf), .ref a1, .int (nI ln), .ref a2, .ref a3, .ref a4, .int (nI ac), .ref a5, .ref a6, .ref mw, .ref mh, .int (nI p), .int (nI ou)])), aI cy a1 120 (mS tx)] sz)) (wr_Q (fun r : Nat × Nat => (some (.int (nI r.1)))) (fun r : Nat × Nat => (r = fgF tx ln v0 0 0 0 p)) (fun r : Nat × Nat => [(mo, .inr (6, [.int (nI rf), .ref a1, .int (nI ln), .ref a2, .ref a3, .ref a4, .int (nI ac), .ref a5, .ref a6, .ref mw, .ref mh, .int (nI r.2), .int (nI ou)])), aI cy a1 120 (mS tx)]) g (va_A [(mo, .inr (6, [.int (nI rf), .ref a1, .int (nI ln), .ref a2, .ref a3, .ref a4, .int (nI ac), .ref a5, .ref a6, .ref mw, .ref mh, .int (nI p), .int (nI ou)])), aI cy a1 120 (mS tx)] sz)) 0 0 (va_A [(mo, .inr (6, [.int (nI rf), .ref a1, .int (nI ln), .ref a2, .ref a3, .ref a4, .int (nI ac), .ref a5, .ref a6, .ref mw, .ref mh, .int (nI p), .int (nI ou)])), aI cy a1 120 (mS tx)] sz) := by
  refine mt_of (cc := cX8_plusSign) (maxL := 4) (ret := (some .int)) (by decide +kernel) (Nat.le_of_ble_eq_true rfl) ?_
  intro pX eX s mX below meth cX ls A hx hb hr hml hown hts hlk hin hsz hAe hA hP hD hK hX hl
  subst hsz
  rw [← hAe]
  clear hAe
  have hl : lv_has ls 4 [(0, .ref mo), (1, .int (nI v0))] := hl
  have hS : va_S A s.heap s.heap [] := va_S.rf
  have htx9 := htx p
  refine lv_iload_n hx hb dX8_plusSign_0 rfl (lv_at hl 1 rfl) ?_
  refine lv_iconst (v := (nI NN)) hx hb dX8_plusSign_1 (by decide) ?_
  refine lv_icmp_eq (tgt := 48) hx hb dX8_plusSign_2 (by decide) (fun c_2 => ?_) (fun c_2 => ?_)
  · have c_2 := (nc_eq9 (by omega) (by decide) c_2)
    refine lv_iconst (v := (nI 0)) hx hb dX8_plusSign_48 (by decide) ?_
    refine lv_istore_n (lv' := [(2, .int (nI 0)), (0, .ref mo), (1, .int (nI v0))]) hx hb dX8_plusSign_49 rfl hl (by decide) rfl (fun ls hl => ?_)
    refine lv_iload_n hx hb dX8_plusSign_50 rfl (lv_at hl 0 rfl) ?_
    refine lv_if_eq (tgt := 72) hx hb dX8_plusSign_51 (by decide) (fun c_51 => ?_) (fun c_51 => ?_)
    · have c_51 := (nz_eq c_51 (by omega))
      refine lv_iconst (v := (nI 0)) hx hb dX8_plusSign_72 (by decide) ?_
      refine lv_istore_n (lv' := [(3, .int (nI 0)), (2, .int (nI 0)), (0, .ref mo), (1, .int (nI v0))]) hx hb dX8_plusSign_73 rfl hl (by decide) rfl (fun ls hl => ?_)
      refine lv_aload_n hx hb dX8_plusSign_74 rfl (lv_at hl 2 rfl) ?_
      refine lv_dup hx hb dX8_plusSign_75 rfl ?_
      refine va_get (D := g) (ci := 6) (v := .int (nI p)) (C := RX8) (T := TX8) (N := 13) hx hb hts bgX8 hown hK hP 0 rfl rfl 11 (by decide) (hts _ wd10_23) (fun _ h9 => h9) rfl dX8_plusSign_76 ?_
      refine lv_iload_n hx hb dX8_plusSign_79 rfl (lv_at hl 1 rfl) ?_
      refine lv_if_eq (tgt := 87) hx hb dX8_plusSign_80 (by decide) (fun c_80 => ?_) (fun c_80 => ?_)
      · have c_80 := (nz_eq c_80 (by omega))
        refine lv_iconst (v := (nI 0)) hx hb dX8_plusSign_87 (by decide) ?_
        refine lv_iadd hx hb dX8_plusSign_88 ?_
        refine ti (nI_add p 0) ?_
        refine va_put (D := g) (ci := 6) (v := .int (nI (p + 0))) (ty := .int) (C := RX8) (T := TX8) (N := 13) hx hb hts bgX8 tyX8 tyX8_ok nmX8 hown hK hP hD hS 0 rfl rfl 11 (by decide) (hts _ wd10_23) (fun _ h9 => h9) rfl (by decide +kernel) rfl rfl (Nat.le_of_ble_eq_true rfl) dX8_plusSign_89 (fun H locs hP hD hS => ?_)
        have hP : va_P g vwCl [(mo, .inr (6, [.int (nI rf), .ref a1, .int (nI ln), .ref a2, .ref a3, .ref a4, .int (nI ac), .ref a5, .ref a6, .ref mw, .ref mh, .int (nI (p + 0)), .int (nI ou)])), aI cy a1 120 (mS tx)] H := hP
        have hD : va_D A [(mo, .inr (6, [.int (nI rf), .ref a1, .int (nI ln), .ref a2, .ref a3, .ref a4, .int (nI ac), .ref a5, .ref a6, .ref mw, .ref mh, .int (nI (p + 0)), .int (nI ou)])), aI cy a1 120 (mS tx)] := hD
        refine lv_iload_n hx hb dX8_plusSign_92 rfl (lv_at hl 1 rfl) ?_
        refine lv_if_eq (tgt := 100) hx hb dX8_plusSign_93 (by decide) (fun c_93 => ?_) (fun c_93 => ?_)
        · have c_93 := (nz_eq c_93 (by omega))
          refine lv_iconst (v := (nI NN)) hx hb dX8_plusSign_100 (by decide) ?_
          have hfin : fgF tx ln v0 0 0 0 p = (NN, p) := by simp [fgF, itF, plF9, c_2]
          exact wr_i (fgF tx ln v0 0 0 0 p) (by rw [hfin]) rfl (by rw [hfin]; exact hP) hS hx hb hr dX8_plusSign_101 hlk
        · have c_93 := (nz_ne c_93 (by omega))
          exact absurd rfl c_93
      · have c_80 := (nz_ne c_80 (by omega))
        exact absurd rfl c_80
    · have c_51 := (nz_ne c_51 (by omega))
      exact absurd rfl c_51
  · have c_2 := (nc_ne9 (by omega) (by decide) c_2)
    refine lv_aload_n hx hb dX8_plusSign_5 rfl (lv_at hl 0 rfl) ?_
    refine va_get (D := g) (ci := 6) (v := .int (nI p)) (C := RX8) (T := TX8) (N := 13) hx hb hts bgX8 hown hK hP 0 rfl rfl 11 (by decide) (hts _ wd10_23) (fun _ h9 => h9) rfl dX8_plusSign_6 ?_
    refine lv_aload_n hx hb dX8_plusSign_9 rfl (lv_at hl 0 rfl) ?_
    refine va_get (D := g) (ci := 6) (v := .int (nI ln)) (C := RX8) (T := TX8) (N := 13) hx hb hts bgX8 hown hK hP 0 rfl rfl 2 (by decide) (hts _ wd7_14) (fun _ h9 => h9) rfl dX8_plusSign_10 ?_
    refine lv_icmp_ge (tgt := 48) hx hb dX8_plusSign_13 (by decide) (fun c_13 => ?_) (fun c_13 => ?_)
    · have c_13 := (nc_le (by omega) (by omega) c_13)
      refine lv_iconst (v := (nI 0)) hx hb dX8_plusSign_48 (by decide) ?_
      refine lv_istore_n (lv' := [(2, .int (nI 0)), (0, .ref mo), (1, .int (nI v0))]) hx hb dX8_plusSign_49 rfl hl (by decide) rfl (fun ls hl => ?_)
      refine lv_iload_n hx hb dX8_plusSign_50 rfl (lv_at hl 0 rfl) ?_
      refine lv_if_eq (tgt := 72) hx hb dX8_plusSign_51 (by decide) (fun c_51 => ?_) (fun c_51 => ?_)
      · have c_51 := (nz_eq c_51 (by omega))
        refine lv_iconst (v := (nI 0)) hx hb dX8_plusSign_72 (by decide) ?_
        refine lv_istore_n (lv' := [(3, .int (nI 0)), (2, .int (nI 0)), (0, .ref mo), (1, .int (nI v0))]) hx hb dX8_plusSign_73 rfl hl (by decide) rfl (fun ls hl => ?_)
        refine lv_aload_n hx hb dX8_plusSign_74 rfl (lv_at hl 2 rfl) ?_
        refine lv_dup hx hb dX8_plusSign_75 rfl ?_
        refine va_get (D := g) (ci := 6) (v := .int (nI p)) (C := RX8) (T := TX8) (N := 13) hx hb hts bgX8 hown hK hP 0 rfl rfl 11 (by decide) (hts _ wd10_23) (fun _ h9 => h9) rfl dX8_plusSign_76 ?_
        refine lv_iload_n hx hb dX8_plusSign_79 rfl (lv_at hl 1 rfl) ?_
        refine lv_if_eq (tgt := 87) hx hb dX8_plusSign_80 (by decide) (fun c_80 => ?_) (fun c_80 => ?_)
        · have c_80 := (nz_eq c_80 (by omega))
          refine lv_iconst (v := (nI 0)) hx hb dX8_plusSign_87 (by decide) ?_
          refine lv_iadd hx hb dX8_plusSign_88 ?_
          refine ti (nI_add p 0) ?_
          refine va_put (D := g) (ci := 6) (v := .int (nI (p + 0))) (ty := .int) (C := RX8) (T := TX8) (N := 13) hx hb hts bgX8 tyX8 tyX8_ok nmX8 hown hK hP hD hS 0 rfl rfl 11 (by decide) (hts _ wd10_23) (fun _ h9 => h9) rfl (by decide +kernel) rfl rfl (Nat.le_of_ble_eq_true rfl) dX8_plusSign_89 (fun H locs hP hD hS => ?_)
          have hP : va_P g vwCl [(mo, .inr (6, [.int (nI rf), .ref a1, .int (nI ln), .ref a2, .ref a3, .ref a4, .int (nI ac), .ref a5, .ref a6, .ref mw, .ref mh, .int (nI (p + 0)), .int (nI ou)])), aI cy a1 120 (mS tx)] H := hP
          have hD : va_D A [(mo, .inr (6, [.int (nI rf), .ref a1, .int (nI ln), .ref a2, .ref a3, .ref a4, .int (nI ac), .ref a5, .ref a6, .ref mw, .ref mh, .int (nI (p + 0)), .int (nI ou)])), aI cy a1 120 (mS tx)] := hD
          refine lv_iload_n hx hb dX8_plusSign_92 rfl (lv_at hl 1 rfl) ?_
          refine lv_if_eq (tgt := 100) hx hb dX8_plusSign_93 (by decide) (fun c_93 => ?_) (fun c_93 => ?_)
          · have c_93 := (nz_eq c_93 (by omega))
            refine lv_iconst (v := (nI NN)) hx hb dX8_plusSign_100 (by decide) ?_
            have hfin : fgF tx ln v0 0 0 0 p = (NN, p) := by simp [fgF, itF, plF9, c_2, Nat.not_lt.mpr c_13]
            exact wr_i (fgF tx ln v0 0 0 0 p) (by rw [hfin]) rfl (by rw [hfin]; exact hP) hS hx hb hr dX8_plusSign_101 hlk
          · have c_93 := (nz_ne c_93 (by omega))
            exact absurd rfl c_93
        · have c_80 := (nz_ne c_80 (by omega))
          exact absurd rfl c_80
      · have c_51 := (nz_ne c_51 (by omega))
        exact absurd rfl c_51
    · have c_13 := (nc_nle (by omega) (by omega) c_13)
      refine lv_aload_n hx hb dX8_plusSign_16 rfl (lv_at hl 0 rfl) ?_
      refine va_get (D := g) (ci := 6) (v := .ref a1) (C := RX8) (T := TX8) (N := 13) hx hb hts bgX8 hown hK hP 0 rfl rfl 1 (by decide) (hts _ wd5_20) (fun _ h9 => h9) rfl dX8_plusSign_17 ?_
      refine lv_aload_n hx hb dX8_plusSign_20 rfl (lv_at hl 0 rfl) ?_
      refine va_get (D := g) (ci := 6) (v := .int (nI p)) (C := RX8) (T := TX8) (N := 13) hx hb hts bgX8 hown hK hP 0 rfl rfl 11 (by decide) (hts _ wd10_23) (fun _ h9 => h9) rfl dX8_plusSign_21 ?_
      refine va_iald hx hb hK hP 1 0 rfl rfl (vp_in_nI (n := p) (by omega) (by omega)) dX8_plusSign_24 ?_
      refine ti (show (mS tx) (nI p).toNatClampNeg = nI (tx p) from by rw [nI_clamp (by omega)]; rfl) ?_
      refine lv_bipush (v := (nI 43)) hx hb dX8_plusSign_25 (by decide) ?_
      refine lv_icmp_eq (tgt := 44) hx hb dX8_plusSign_27 (by decide) (fun c_27 => ?_) (fun c_27 => ?_)
      · have c_27 := (nc_eq9 (by omega) (by omega) c_27)
        refine lv_iconst (v := (nI 1)) hx hb dX8_plusSign_44 (by decide) ?_
        refine lv_goto (tgt := 49) hx hb dX8_plusSign_45 (by decide) ?_
        refine lv_istore_n (lv' := [(2, .int (nI 1)), (0, .ref mo), (1, .int (nI v0))]) hx hb dX8_plusSign_49 rfl hl (by decide) rfl (fun ls hl => ?_)
        refine lv_iload_n hx hb dX8_plusSign_50 rfl (lv_at hl 0 rfl) ?_
        refine lv_if_eq (tgt := 72) hx hb dX8_plusSign_51 (by decide) (fun c_51 => ?_) (fun c_51 => ?_)
        · have c_51 := (nz_eq c_51 (by omega))
          omega
        · have c_51 := (nz_ne c_51 (by omega))
          refine lv_aload_n hx hb dX8_plusSign_54 rfl (lv_at hl 1 rfl) ?_
          refine va_get (D := g) (ci := 6) (v := .ref a1) (C := RX8) (T := TX8) (N := 13) hx hb hts bgX8 hown hK hP 0 rfl rfl 1 (by decide) (hts _ wd5_20) (fun _ h9 => h9) rfl dX8_plusSign_55 ?_
          refine lv_aload_n hx hb dX8_plusSign_58 rfl (lv_at hl 1 rfl) ?_
          refine va_get (D := g) (ci := 6) (v := .int (nI p)) (C := RX8) (T := TX8) (N := 13) hx hb hts bgX8 hown hK hP 0 rfl rfl 11 (by decide) (hts _ wd10_23) (fun _ h9 => h9) rfl dX8_plusSign_59 ?_
          refine va_iald hx hb hK hP 1 0 rfl rfl (vp_in_nI (n := p) (by omega) (by omega)) dX8_plusSign_62 ?_
          refine ti (show (mS tx) (nI p).toNatClampNeg = nI (tx p) from by rw [nI_clamp (by omega)]; rfl) ?_
          refine lv_bipush (v := (nI 43)) hx hb dX8_plusSign_63 (by decide) ?_
          refine lv_icmp_ne (tgt := 72) hx hb dX8_plusSign_65 (by decide) (fun c_65 => ?_) (fun c_65 => ?_)
          · have c_65 := (nc_ne9 (by omega) (by omega) c_65)
            exact absurd c_27 c_65
          · have c_65 := (nc_eq9 (by omega) (by omega) c_65)
            refine lv_iconst (v := (nI 1)) hx hb dX8_plusSign_68 (by decide) ?_
            refine lv_goto (tgt := 73) hx hb dX8_plusSign_69 (by decide) ?_
            refine lv_istore_n (lv' := [(3, .int (nI 1)), (2, .int (nI 1)), (0, .ref mo), (1, .int (nI v0))]) hx hb dX8_plusSign_73 rfl hl (by decide) rfl (fun ls hl => ?_)
            refine lv_aload_n hx hb dX8_plusSign_74 rfl (lv_at hl 2 rfl) ?_
            refine lv_dup hx hb dX8_plusSign_75 rfl ?_
            refine va_get (D := g) (ci := 6) (v := .int (nI p)) (C := RX8) (T := TX8) (N := 13) hx hb hts bgX8 hown hK hP 0 rfl rfl 11 (by decide) (hts _ wd10_23) (fun _ h9 => h9) rfl dX8_plusSign_76 ?_
            refine lv_iload_n hx hb dX8_plusSign_79 rfl (lv_at hl 1 rfl) ?_
            refine lv_if_eq (tgt := 87) hx hb dX8_plusSign_80 (by decide) (fun c_80 => ?_) (fun c_80 => ?_)
            · have c_80 := (nz_eq c_80 (by omega))
              omega
            · have c_80 := (nz_ne c_80 (by omega))
              refine lv_iconst (v := (nI 1)) hx hb dX8_plusSign_83 (by decide) ?_
              refine lv_goto (tgt := 88) hx hb dX8_plusSign_84 (by decide) ?_
              refine lv_iadd hx hb dX8_plusSign_88 ?_
              refine ti (nI_add p 1) ?_
              refine va_put (D := g) (ci := 6) (v := .int (nI (p + 1))) (ty := .int) (C := RX8) (T := TX8) (N := 13) hx hb hts bgX8 tyX8 tyX8_ok nmX8 hown hK hP hD hS 0 rfl rfl 11 (by decide) (hts _ wd10_23) (fun _ h9 => h9) rfl (by decide +kernel) rfl rfl (Nat.le_of_ble_eq_true rfl) dX8_plusSign_89 (fun H locs hP hD hS => ?_)
              have hP : va_P g vwCl [(mo, .inr (6, [.int (nI rf), .ref a1, .int (nI ln), .ref a2, .ref a3, .ref a4, .int (nI ac), .ref a5, .ref a6, .ref mw, .ref mh, .int (nI (p + 1)), .int (nI ou)])), aI cy a1 120 (mS tx)] H := hP
              have hD : va_D A [(mo, .inr (6, [.int (nI rf), .ref a1, .int (nI ln), .ref a2, .ref a3, .ref a4, .int (nI ac), .ref a5, .ref a6, .ref mw, .ref mh, .int (nI (p + 1)), .int (nI ou)])), aI cy a1 120 (mS tx)] := hD
              refine lv_iload_n hx hb dX8_plusSign_92 rfl (lv_at hl 1 rfl) ?_
              refine lv_if_eq (tgt := 100) hx hb dX8_plusSign_93 (by decide) (fun c_93 => ?_) (fun c_93 => ?_)
              · have c_93 := (nz_eq c_93 (by omega))
                omega
              · have c_93 := (nz_ne c_93 (by omega))
                refine lv_iload_n hx hb dX8_plusSign_96 rfl (lv_at hl 0 rfl) ?_
                refine lv_goto (tgt := 101) hx hb dX8_plusSign_97 (by decide) ?_
                have hfin : fgF tx ln v0 0 0 0 p = (1, p + 1) := by simp [fgF, itF, plF9, c_2, c_13, c_27]
                exact wr_i (fgF tx ln v0 0 0 0 p) (by rw [hfin]) rfl (by rw [hfin]; exact hP) hS hx hb hr dX8_plusSign_101 hlk
      · have c_27 := (nc_ne9 (by omega) (by omega) c_27)
        refine lv_aload_n hx hb dX8_plusSign_30 rfl (lv_at hl 0 rfl) ?_
        refine va_get (D := g) (ci := 6) (v := .ref a1) (C := RX8) (T := TX8) (N := 13) hx hb hts bgX8 hown hK hP 0 rfl rfl 1 (by decide) (hts _ wd5_20) (fun _ h9 => h9) rfl dX8_plusSign_31 ?_
        refine lv_aload_n hx hb dX8_plusSign_34 rfl (lv_at hl 0 rfl) ?_
        refine va_get (D := g) (ci := 6) (v := .int (nI p)) (C := RX8) (T := TX8) (N := 13) hx hb hts bgX8 hown hK hP 0 rfl rfl 11 (by decide) (hts _ wd10_23) (fun _ h9 => h9) rfl dX8_plusSign_35 ?_
        refine va_iald hx hb hK hP 1 0 rfl rfl (vp_in_nI (n := p) (by omega) (by omega)) dX8_plusSign_38 ?_
        refine ti (show (mS tx) (nI p).toNatClampNeg = nI (tx p) from by rw [nI_clamp (by omega)]; rfl) ?_
        refine lv_bipush (v := (nI 45)) hx hb dX8_plusSign_39 (by decide) ?_
        refine lv_icmp_ne (tgt := 48) hx hb dX8_plusSign_41 (by decide) (fun c_41 => ?_) (fun c_41 => ?_)
        · have c_41 := (nc_ne9 (by omega) (by omega) c_41)
          refine lv_iconst (v := (nI 0)) hx hb dX8_plusSign_48 (by decide) ?_
          refine lv_istore_n (lv' := [(2, .int (nI 0)), (0, .ref mo), (1, .int (nI v0))]) hx hb dX8_plusSign_49 rfl hl (by decide) rfl (fun ls hl => ?_)
          refine lv_iload_n hx hb dX8_plusSign_50 rfl (lv_at hl 0 rfl) ?_
          refine lv_if_eq (tgt := 72) hx hb dX8_plusSign_51 (by decide) (fun c_51 => ?_) (fun c_51 => ?_)
          · have c_51 := (nz_eq c_51 (by omega))
            refine lv_iconst (v := (nI 0)) hx hb dX8_plusSign_72 (by decide) ?_
            refine lv_istore_n (lv' := [(3, .int (nI 0)), (2, .int (nI 0)), (0, .ref mo), (1, .int (nI v0))]) hx hb dX8_plusSign_73 rfl hl (by decide) rfl (fun ls hl => ?_)
            refine lv_aload_n hx hb dX8_plusSign_74 rfl (lv_at hl 2 rfl) ?_
            refine lv_dup hx hb dX8_plusSign_75 rfl ?_
            refine va_get (D := g) (ci := 6) (v := .int (nI p)) (C := RX8) (T := TX8) (N := 13) hx hb hts bgX8 hown hK hP 0 rfl rfl 11 (by decide) (hts _ wd10_23) (fun _ h9 => h9) rfl dX8_plusSign_76 ?_
            refine lv_iload_n hx hb dX8_plusSign_79 rfl (lv_at hl 1 rfl) ?_
            refine lv_if_eq (tgt := 87) hx hb dX8_plusSign_80 (by decide) (fun c_80 => ?_) (fun c_80 => ?_)
            · have c_80 := (nz_eq c_80 (by omega))
              refine lv_iconst (v := (nI 0)) hx hb dX8_plusSign_87 (by decide) ?_
              refine lv_iadd hx hb dX8_plusSign_88 ?_
              refine ti (nI_add p 0) ?_
              refine va_put (D := g) (ci := 6) (v := .int (nI (p + 0))) (ty := .int) (C := RX8) (T := TX8) (N := 13) hx hb hts bgX8 tyX8 tyX8_ok nmX8 hown hK hP hD hS 0 rfl rfl 11 (by decide) (hts _ wd10_23) (fun _ h9 => h9) rfl (by decide +kernel) rfl rfl (Nat.le_of_ble_eq_true rfl) dX8_plusSign_89 (fun H locs hP hD hS => ?_)
              have hP : va_P g vwCl [(mo, .inr (6, [.int (nI rf), .ref a1, .int (nI ln), .ref a2, .ref a3, .ref a4, .int (nI ac), .ref a5, .ref a6, .ref mw, .ref mh, .int (nI (p + 0)), .int (nI ou)])), aI cy a1 120 (mS tx)] H := hP
              have hD : va_D A [(mo, .inr (6, [.int (nI rf), .ref a1, .int (nI ln), .ref a2, .ref a3, .ref a4, .int (nI ac), .ref a5, .ref a6, .ref mw, .ref mh, .int (nI (p + 0)), .int (nI ou)])), aI cy a1 120 (mS tx)] := hD
              refine lv_iload_n hx hb dX8_plusSign_92 rfl (lv_at hl 1 rfl) ?_
              refine lv_if_eq (tgt := 100) hx hb dX8_plusSign_93 (by decide) (fun c_93 => ?_) (fun c_93 => ?_)
              · have c_93 := (nz_eq c_93 (by omega))
                refine lv_iconst (v := (nI NN)) hx hb dX8_plusSign_100 (by decide) ?_
                have hfin : fgF tx ln v0 0 0 0 p = (NN, p) := by simp [fgF, itF, plF9, c_2, c_13, c_27, c_41]
                exact wr_i (fgF tx ln v0 0 0 0 p) (by rw [hfin]) rfl (by rw [hfin]; exact hP) hS hx hb hr dX8_plusSign_101 hlk
              · have c_93 := (nz_ne c_93 (by omega))
                exact absurd rfl c_93
            · have c_80 := (nz_ne c_80 (by omega))
              exact absurd rfl c_80
          · have c_51 := (nz_ne c_51 (by omega))
            exact absurd rfl c_51
        · have c_41 := (nc_eq9 (by omega) (by omega) c_41)
          refine lv_iconst (v := (nI 1)) hx hb dX8_plusSign_44 (by decide) ?_
          refine lv_goto (tgt := 49) hx hb dX8_plusSign_45 (by decide) ?_
          refine lv_istore_n (lv' := [(2, .int (nI 1)), (0, .ref mo), (1, .int (nI v0))]) hx hb dX8_plusSign_49 rfl hl (by decide) rfl (fun ls hl => ?_)
          refine lv_iload_n hx hb dX8_plusSign_50 rfl (lv_at hl 0 rfl) ?_
          refine lv_if_eq (tgt := 72) hx hb dX8_plusSign_51 (by decide) (fun c_51 => ?_) (fun c_51 => ?_)
          · have c_51 := (nz_eq c_51 (by omega))
            omega
          · have c_51 := (nz_ne c_51 (by omega))
            refine lv_aload_n hx hb dX8_plusSign_54 rfl (lv_at hl 1 rfl) ?_
            refine va_get (D := g) (ci := 6) (v := .ref a1) (C := RX8) (T := TX8) (N := 13) hx hb hts bgX8 hown hK hP 0 rfl rfl 1 (by decide) (hts _ wd5_20) (fun _ h9 => h9) rfl dX8_plusSign_55 ?_
            refine lv_aload_n hx hb dX8_plusSign_58 rfl (lv_at hl 1 rfl) ?_
            refine va_get (D := g) (ci := 6) (v := .int (nI p)) (C := RX8) (T := TX8) (N := 13) hx hb hts bgX8 hown hK hP 0 rfl rfl 11 (by decide) (hts _ wd10_23) (fun _ h9 => h9) rfl dX8_plusSign_59 ?_
            refine va_iald hx hb hK hP 1 0 rfl rfl (vp_in_nI (n := p) (by omega) (by omega)) dX8_plusSign_62 ?_
            refine ti (show (mS tx) (nI p).toNatClampNeg = nI (tx p) from by rw [nI_clamp (by omega)]; rfl) ?_
            refine lv_bipush (v := (nI 43)) hx hb dX8_plusSign_63 (by decide) ?_
            refine lv_icmp_ne (tgt := 72) hx hb dX8_plusSign_65 (by decide) (fun c_65 => ?_) (fun c_65 => ?_)
            · have c_65 := (nc_ne9 (by omega) (by omega) c_65)
              refine lv_iconst (v := (nI 0)) hx hb dX8_plusSign_72 (by decide) ?_
              refine lv_istore_n (lv' := [(3, .int (nI 0)), (2, .int (nI 1)), (0, .ref mo), (1, .int (nI v0))]) hx hb dX8_plusSign_73 rfl hl (by decide) rfl (fun ls hl => ?_)
              refine lv_aload_n hx hb dX8_plusSign_74 rfl (lv_at hl 2 rfl) ?_
              refine lv_dup hx hb dX8_plusSign_75 rfl ?_
              refine va_get (D := g) (ci := 6) (v := .int (nI p)) (C := RX8) (T := TX8) (N := 13) hx hb hts bgX8 hown hK hP 0 rfl rfl 11 (by decide) (hts _ wd10_23) (fun _ h9 => h9) rfl dX8_plusSign_76 ?_
              refine lv_iload_n hx hb dX8_plusSign_79 rfl (lv_at hl 1 rfl) ?_
              refine lv_if_eq (tgt := 87) hx hb dX8_plusSign_80 (by decide) (fun c_80 => ?_) (fun c_80 => ?_)
              · have c_80 := (nz_eq c_80 (by omega))
                omega
              · have c_80 := (nz_ne c_80 (by omega))
                refine lv_iconst (v := (nI 1)) hx hb dX8_plusSign_83 (by decide) ?_
                refine lv_goto (tgt := 88) hx hb dX8_plusSign_84 (by decide) ?_
                refine lv_iadd hx hb dX8_plusSign_88 ?_
                refine ti (nI_add p 1) ?_
                refine va_put (D := g) (ci := 6) (v := .int (nI (p + 1))) (ty := .int) (C := RX8) (T := TX8) (N := 13) hx hb hts bgX8 tyX8 tyX8_ok nmX8 hown hK hP hD hS 0 rfl rfl 11 (by decide) (hts _ wd10_23) (fun _ h9 => h9) rfl (by decide +kernel) rfl rfl (Nat.le_of_ble_eq_true rfl) dX8_plusSign_89 (fun H locs hP hD hS => ?_)
                have hP : va_P g vwCl [(mo, .inr (6, [.int (nI rf), .ref a1, .int (nI ln), .ref a2, .ref a3, .ref a4, .int (nI ac), .ref a5, .ref a6, .ref mw, .ref mh, .int (nI (p + 1)), .int (nI ou)])), aI cy a1 120 (mS tx)] H := hP
                have hD : va_D A [(mo, .inr (6, [.int (nI rf), .ref a1, .int (nI ln), .ref a2, .ref a3, .ref a4, .int (nI ac), .ref a5, .ref a6, .ref mw, .ref mh, .int (nI (p + 1)), .int (nI ou)])), aI cy a1 120 (mS tx)] := hD
                refine lv_iload_n hx hb dX8_plusSign_92 rfl (lv_at hl 1 rfl) ?_
                refine lv_if_eq (tgt := 100) hx hb dX8_plusSign_93 (by decide) (fun c_93 => ?_) (fun c_93 => ?_)
                · have c_93 := (nz_eq c_93 (by omega))
                  omega
                · have c_93 := (nz_ne c_93 (by omega))
                  refine lv_iload_n hx hb dX8_plusSign_96 rfl (lv_at hl 0 rfl) ?_
                  refine lv_goto (tgt := 101) hx hb dX8_plusSign_97 (by decide) ?_
                  have hfin : fgF tx ln v0 0 0 0 p = (0, p + 1) := by simp [fgF, itF, plF9, c_2, c_13, c_27, c_41]
                  exact wr_i (fgF tx ln v0 0 0 0 p) (by rw [hfin]) rfl (by rw [hfin]; exact hP) hS hx hb hr dX8_plusSign_101 hlk
            · have c_65 := (nc_eq9 (by omega) (by omega) c_65)
              exact absurd c_65 c_27
set_option maxHeartbeats 4000000 in
set_option maxRecDepth 100000 in
theorem c_X8_done (l : Launch) (g : va_G) (cy : Nat → ClassId) (mo a1 a2 a3 a4 a5 a6 mw mh : Nat) (sz : Nat) (rf : Nat) (ln : Nat) (ac : Nat) (p : Nat) (ou : Nat) (bb : Bool) : Met l yX8_done (Cond.code yX8_done cX8_done 2 (some .boolean) :: wsL_law) ({ frames := 0, cells := 0, slots := 0, locals := 0 } : Room) (va_Pc [.ref mo, .int (bI bb)] (pr g cy [(mo, .inr (6, [.int (nI rf), .ref a1, .int (nI ln), .ref a2, .ref a3, .ref a4, .int (nI ac), .ref a5, .ref a6, .ref mw, .ref mh, .int (nI p), .int (nI ou)]))] sz)) (wr_Q (fun _ : Unit => (some (.int (bI true)))) (fun _ : Unit => True) (fun _ : Unit => [(mo, .inr (6, [.int (nI rf), .ref a1, .int (nI ln), .ref a2, .ref a3, .ref a4, .int (nI ac), .ref a5, .ref a6, .ref mw, .ref mh, .int (nI p), .int (nI (ou + (if bb = true then 0 else 1)))]))]) g (va_A [(mo, .inr (6, [.int (nI rf), .ref a1, .int (nI ln), .ref a2, .ref a3, .ref a4, .int (nI ac), .ref a5, .ref a6, .ref mw, .ref mh, .int (nI p), .int (nI ou)]))] sz)) 0 0 (va_A [(mo, .inr (6, [.int (nI rf), .ref a1, .int (nI ln), .ref a2, .ref a3, .ref a4, .int (nI ac), .ref a5, .ref a6, .ref mw, .ref mh, .int (nI p), .int (nI ou)]))] sz) := by
  refine mt_of (cc := cX8_done) (maxL := 2) (ret := (some .boolean)) (by decide +kernel) (Nat.le_of_ble_eq_true rfl) ?_
  intro pX eX s mX below meth cX ls A hx hb hr hml hown hts hlk hin hsz hAe hA hP hD hK hX hl
  subst hsz
  rw [← hAe]
  clear hAe
  have hl : lv_has ls 2 [(0, .ref mo), (1, .int (bI bb))] := hl
  have hS : va_S A s.heap s.heap [] := va_S.rf
  refine lv_aload_n hx hb dX8_done_0 rfl (lv_at hl 0 rfl) ?_
  refine lv_dup hx hb dX8_done_1 rfl ?_
  refine va_get (D := g) (ci := 6) (v := .int (nI ou)) (C := RX8) (T := TX8) (N := 13) hx hb hts bgX8 hown hK hP 0 rfl rfl 12 (by decide) (hts _ wd10_22) (fun _ h9 => h9) rfl dX8_done_2 ?_
  refine lv_iload_n hx hb dX8_done_5 rfl (lv_at hl 1 rfl) ?_
  refine lv_if_eq (tgt := 13) hx hb dX8_done_6 (by decide) (fun c_6 => ?_) (fun c_6 => ?_)
  · have c_6 := (bI_eq0.mp c_6)
    refine lv_iconst (v := (nI 1)) hx hb dX8_done_13 (by decide) ?_
    refine lv_iadd hx hb dX8_done_14 ?_
    refine ti (nI_add ou 1) ?_
    refine va_put (D := g) (ci := 6) (v := .int (nI (ou + 1))) (ty := .int) (C := RX8) (T := TX8) (N := 13) hx hb hts bgX8 tyX8 tyX8_ok nmX8 hown hK hP hD hS 0 rfl rfl 12 (by decide) (hts _ wd10_22) (fun _ h9 => h9) rfl (by decide +kernel) rfl rfl (Nat.le_of_ble_eq_true rfl) dX8_done_15 (fun H locs hP hD hS => ?_)
    have hP : va_P g vwCl [(mo, .inr (6, [.int (nI rf), .ref a1, .int (nI ln), .ref a2, .ref a3, .ref a4, .int (nI ac), .ref a5, .ref a6, .ref mw, .ref mh, .int (nI p), .int (nI (ou + 1))]))] H := hP
    have hD : va_D A [(mo, .inr (6, [.int (nI rf), .ref a1, .int (nI ln), .ref a2, .ref a3, .ref a4, .int (nI ac), .ref a5, .ref a6, .ref mw, .ref mh, .int (nI p), .int (nI (ou + 1))]))] := hD
    refine lv_iconst (v := (nI 1)) hx hb dX8_done_18 (by decide) ?_
    exact wr_z (b := true) () rfl rfl trivial (by rw [c_6]; exact hP) hS hx hb hr dX8_done_19 hlk
  · have c_6 := (bI_ne0.mp c_6)
    refine lv_iconst (v := (nI 0)) hx hb dX8_done_9 (by decide) ?_
    refine lv_goto (tgt := 14) hx hb dX8_done_10 (by decide) ?_
    refine lv_iadd hx hb dX8_done_14 ?_
    refine ti (nI_add ou 0) ?_
    refine va_put (D := g) (ci := 6) (v := .int (nI (ou + 0))) (ty := .int) (C := RX8) (T := TX8) (N := 13) hx hb hts bgX8 tyX8 tyX8_ok nmX8 hown hK hP hD hS 0 rfl rfl 12 (by decide) (hts _ wd10_22) (fun _ h9 => h9) rfl (by decide +kernel) rfl rfl (Nat.le_of_ble_eq_true rfl) dX8_done_15 (fun H locs hP hD hS => ?_)
    have hP : va_P g vwCl [(mo, .inr (6, [.int (nI rf), .ref a1, .int (nI ln), .ref a2, .ref a3, .ref a4, .int (nI ac), .ref a5, .ref a6, .ref mw, .ref mh, .int (nI p), .int (nI (ou + 0))]))] H := hP
    have hD : va_D A [(mo, .inr (6, [.int (nI rf), .ref a1, .int (nI ln), .ref a2, .ref a3, .ref a4, .int (nI ac), .ref a5, .ref a6, .ref mw, .ref mh, .int (nI p), .int (nI (ou + 0))]))] := hD
    refine lv_iconst (v := (nI 1)) hx hb dX8_done_18 (by decide) ?_
    exact wr_z (b := true) () rfl rfl trivial (by rw [c_6]; exact hP) hS hx hb hr dX8_done_19 hlk
set_option maxHeartbeats 4000000 in
set_option maxRecDepth 100000 in
theorem c_X8_cornerSign (l : Launch) (g : va_G) (cy : Nat → ClassId) (mo a1 a2 a3 a4 a5 a6 mw mh : Nat) (sz : Nat) (rf : Nat) (ln : Nat) (ac : Nat) (p : Nat) (ou : Nat) (tx : Nat → Nat) (v0 : Nat) (htx : ∀ i9, tx i9 < 256) (hln : ln ≤ 120) (hpp : p ≤ 1000) (hv0 : (v0 = NN ∨ v0 ≤ 501) ∧ v0 < 2 ^ 32) : Met l yX8_cornerSign (Cond.code yX8_cornerSign cX8_cornerSign 2 (some .int) :: wsL_law) ({ frames := 2, cells := 0, slots := 0, locals := 53 } : Room) (va_Pc [.ref mo, .int (nI v0)] (pr g cy [(mo, .inr (6, [.int (nI rf), .ref a1, .int (nI ln), .ref a2, .ref a3, .ref a4, .int (nI ac), .ref a5, .ref a6, .ref mw, .ref mh, .int (nI p), .int (nI ou)])), aI cy a1 120 (mS tx)] sz)) (wr_Q (fun r : Nat × Nat => (some (.int (nI r.1)))) (fun r : Nat × Nat => (r = fgF tx ln v0 2 0 11 p)) (fun r : Nat × Nat => [(mo, .inr (6, [.int (nI rf), .ref a1, .int (nI ln), .ref a2, .ref a3, .ref a4, .int (nI ac), .ref a5, .ref a6, .ref mw, .ref mh, .int (nI r.2), .int (nI ou)])), aI cy a1 120 (mS tx)]) g (va_A [(mo, .inr (6, [.int (nI rf), .ref a1, .int (nI ln), .ref a2, .ref a3, .ref a4, .int (nI ac), .ref a5, .ref a6, .ref mw, .ref mh, .int (nI p), .int (nI ou)])), aI cy a1 120 (mS tx)] sz)) 0 0 (va_A [(mo, .inr (6, [.int (nI rf), .ref a1, .int (nI ln), .ref a2, .ref a3, .ref a4, .int (nI ac), .ref a5, .ref a6, .ref mw, .ref mh, .int (nI p), .int (nI ou)])), aI cy a1 120 (mS tx)] sz) := by
  refine mt_of (cc := cX8_cornerSign) (maxL := 2) (ret := (some .int)) (by decide +kernel) (Nat.le_of_ble_eq_true rfl) ?_
  intro pX eX s mX below meth cX ls A hx hb hr hml hown hts hlk hin hsz hAe hA hP hD hK hX hl
  subst hsz
  rw [← hAe]
  clear hAe
  have hl : lv_has ls 2 [(0, .ref mo), (1, .int (nI v0))] := hl
  have hS : va_S A s.heap s.heap [] := va_S.rf
  refine lv_aload_n hx hb dX8_cornerSign_0 rfl (lv_at hl 0 rfl) ?_
  refine lv_iload_n hx hb dX8_cornerSign_1 rfl (lv_at hl 1 rfl) ?_
  refine lv_bipush (v := (nI 10)) hx hb dX8_cornerSign_2 (by decide) ?_
  refine lv_iconst (v := (nI 0)) hx hb dX8_cornerSign_4 (by decide) ?_
  refine lv_bipush (v := (nI 11)) hx hb dX8_cornerSign_5 (by decide) ?_
  refine wr_call (wc := [(mo, .inr (6, [.int (nI rf), .ref a1, .int (nI ln), .ref a2, .ref a3, .ref a4, .int (nI ac), .ref a5, .ref a6, .ref mw, .ref mh, .int (nI p), .int (nI ou)])), aI cy a1 120 (mS tx)]) (va_runV (As := [.int (nI v0), .int (nI 10), .int (nI 0), .int (nI 11)]) (rest := []) ⟨hx, hb, hml, hown, hts⟩ (c_X8_figures l g cy mo a1 a2 a3 a4 a5 a6 mw mh s.heap.size rf ln ac p ou tx v0 2 10 0 11 htx (by omega) (by omega) (by omega) (by omega) (by omega) rfl (by omega) (by omega)) ⟨(cB 4 hts wd11_11 wd1_5 wd11_8 rfl rfl (by decide +kernel) ⟨Nat.le_of_ble_eq_true rfl, Nat.le_of_ble_eq_true rfl⟩), hts _ wd11_9, hts _ wd11_10⟩ (pv hK hP hD hS hA hX [0, 1] rfl rfl 6 0 rfl rfl) rfl rfl hl.1 rfl (lv_room (Nat.le_of_ble_eq_true rfl)) dX8_cornerSign_7 ⟨Nat.zero_le _, Nat.zero_le _⟩) hP hD hS hA [0, 1] rfl rfl (fun _ => (rfl : ([mo, a1] : List Nat) = [mo, a1])) ?_
  rintro r_7 H locs hr_7 hP hD hS
  have hP : va_P g vwCl [(mo, .inr (6, [.int (nI rf), .ref a1, .int (nI ln), .ref a2, .ref a3, .ref a4, .int (nI ac), .ref a5, .ref a6, .ref mw, .ref mh, .int (nI r_7.2), .int (nI ou)])), aI cy a1 120 (mS tx)] H := hP
  have hD : va_D A [(mo, .inr (6, [.int (nI rf), .ref a1, .int (nI ln), .ref a2, .ref a3, .ref a4, .int (nI ac), .ref a5, .ref a6, .ref mw, .ref mh, .int (nI r_7.2), .int (nI ou)])), aI cy a1 120 (mS tx)] := hD
  have hr_7 : r_7 = fgF tx ln v0 2 0 11 p := hr_7
  show W _ _ _ _ _ _ _ _ _ _ _ _ _ _ _ (F0 mX 10 ls [.int (nI r_7.1)])
  exact wr_i r_7 rfl hr_7 hP hS hx hb hr dX8_cornerSign_10 hlk
set_option maxHeartbeats 4000000 in
set_option maxRecDepth 100000 in
theorem c_X8_finderSign (l : Launch) (g : va_G) (cy : Nat → ClassId) (mo a1 a2 a3 a4 a5 a6 mw mh : Nat) (sz : Nat) (rf : Nat) (ln : Nat) (ac : Nat) (p : Nat) (ou : Nat) (tx : Nat → Nat) (v0 : Nat) (htx : ∀ i9, tx i9 < 256) (hln : ln ≤ 120) (hpp : p ≤ 1000) (hv0 : (v0 = NN ∨ v0 ≤ 501) ∧ v0 < 2 ^ 32) : Met l yX8_finderSign (Cond.code yX8_finderSign cX8_finderSign 2 (some .int) :: wsL_law) ({ frames := 2, cells := 0, slots := 0, locals := 53 } : Room) (va_Pc [.ref mo, .int (nI v0)] (pr g cy [(mo, .inr (6, [.int (nI rf), .ref a1, .int (nI ln), .ref a2, .ref a3, .ref a4, .int (nI ac), .ref a5, .ref a6, .ref mw, .ref mh, .int (nI p), .int (nI ou)])), aI cy a1 120 (mS tx)] sz)) (wr_Q (fun r : Nat × Nat => (some (.int (nI r.1)))) (fun r : Nat × Nat => (r = fgF tx ln v0 1 0 7 p)) (fun r : Nat × Nat => [(mo, .inr (6, [.int (nI rf), .ref a1, .int (nI ln), .ref a2, .ref a3, .ref a4, .int (nI ac), .ref a5, .ref a6, .ref mw, .ref mh, .int (nI r.2), .int (nI ou)])), aI cy a1 120 (mS tx)]) g (va_A [(mo, .inr (6, [.int (nI rf), .ref a1, .int (nI ln), .ref a2, .ref a3, .ref a4, .int (nI ac), .ref a5, .ref a6, .ref mw, .ref mh, .int (nI p), .int (nI ou)])), aI cy a1 120 (mS tx)] sz)) 0 0 (va_A [(mo, .inr (6, [.int (nI rf), .ref a1, .int (nI ln), .ref a2, .ref a3, .ref a4, .int (nI ac), .ref a5, .ref a6, .ref mw, .ref mh, .int (nI p), .int (nI ou)])), aI cy a1 120 (mS tx)] sz) := by
  refine mt_of (cc := cX8_finderSign) (maxL := 2) (ret := (some .int)) (by decide +kernel) (Nat.le_of_ble_eq_true rfl) ?_
  intro pX eX s mX below meth cX ls A hx hb hr hml hown hts hlk hin hsz hAe hA hP hD hK hX hl
  subst hsz
  rw [← hAe]
  clear hAe
  have hl : lv_has ls 2 [(0, .ref mo), (1, .int (nI v0))] := hl
  have hS : va_S A s.heap s.heap [] := va_S.rf
  refine lv_aload_n hx hb dX8_finderSign_0 rfl (lv_at hl 0 rfl) ?_
  refine lv_iload_n hx hb dX8_finderSign_1 rfl (lv_at hl 1 rfl) ?_
  refine lv_iconst (v := (nI 1)) hx hb dX8_finderSign_2 (by decide) ?_
  refine lv_iconst (v := (nI 0)) hx hb dX8_finderSign_3 (by decide) ?_
  refine lv_bipush (v := (nI 7)) hx hb dX8_finderSign_4 (by decide) ?_
  refine wr_call (wc := [(mo, .inr (6, [.int (nI rf), .ref a1, .int (nI ln), .ref a2, .ref a3, .ref a4, .int (nI ac), .ref a5, .ref a6, .ref mw, .ref mh, .int (nI p), .int (nI ou)])), aI cy a1 120 (mS tx)]) (va_runV (As := [.int (nI v0), .int (nI 1), .int (nI 0), .int (nI 7)]) (rest := []) ⟨hx, hb, hml, hown, hts⟩ (c_X8_figures l g cy mo a1 a2 a3 a4 a5 a6 mw mh s.heap.size rf ln ac p ou tx v0 1 1 0 7 htx (by omega) (by omega) (by omega) (by omega) (by omega) rfl (by omega) (by omega)) ⟨(cB 4 hts wd11_11 wd1_5 wd11_8 rfl rfl (by decide +kernel) ⟨Nat.le_of_ble_eq_true rfl, Nat.le_of_ble_eq_true rfl⟩), hts _ wd11_9, hts _ wd11_10⟩ (pv hK hP hD hS hA hX [0, 1] rfl rfl 6 0 rfl rfl) rfl rfl hl.1 rfl (lv_room (Nat.le_of_ble_eq_true rfl)) dX8_finderSign_6 ⟨Nat.zero_le _, Nat.zero_le _⟩) hP hD hS hA [0, 1] rfl rfl (fun _ => (rfl : ([mo, a1] : List Nat) = [mo, a1])) ?_
  rintro r_6 H locs hr_6 hP hD hS
  have hP : va_P g vwCl [(mo, .inr (6, [.int (nI rf), .ref a1, .int (nI ln), .ref a2, .ref a3, .ref a4, .int (nI ac), .ref a5, .ref a6, .ref mw, .ref mh, .int (nI r_6.2), .int (nI ou)])), aI cy a1 120 (mS tx)] H := hP
  have hD : va_D A [(mo, .inr (6, [.int (nI rf), .ref a1, .int (nI ln), .ref a2, .ref a3, .ref a4, .int (nI ac), .ref a5, .ref a6, .ref mw, .ref mh, .int (nI r_6.2), .int (nI ou)])), aI cy a1 120 (mS tx)] := hD
  have hr_6 : r_6 = fgF tx ln v0 1 0 7 p := hr_6
  show W _ _ _ _ _ _ _ _ _ _ _ _ _ _ _ (F0 mX 9 ls [.int (nI r_6.1)])
  exact wr_i r_6 rfl hr_6 hP hS hx hb hr dX8_finderSign_9 hlk
