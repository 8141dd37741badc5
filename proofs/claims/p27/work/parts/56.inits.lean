set_option maxHeartbeats 4000000 in
set_option maxRecDepth 100000 in
theorem c_X2_init (l : Launch) (g : va_G) (cy : Nat → ClassId) (h : Nat) (sz : Nat)  : Met l yX2_init (Cond.code yX2_init cX2_init 1 none :: wsL_law) ({ frames := 1, cells := 2, slots := 156, locals := 12 } : Room) (va_Pc [.ref h] (pr g cy [(h, .inr (2, [.null, .null, .int (nI 0)]))] sz)) (cn_Q (fun ad : Nat → Nat => (ad 0 = h)) (fun ad : Nat → Nat => [((ad 0), .inr (2, [.ref (ad 1), .ref (ad 2), .int (nI 0)])), aI cy (ad 1) 144 (fun _ => 0), aI cy (ad 2) 12 (fun _ => 0)]) g (va_A [(h, .inr (2, [.null, .null, .int (nI 0)]))] sz)) 2 156 (va_A [(h, .inr (2, [.null, .null, .int (nI 0)]))] sz) := by
  refine mt_of (cc := cX2_init) (maxL := 1) (ret := none) (by decide +kernel) (Nat.le_of_ble_eq_true rfl) ?_
  intro pX eX s mX below meth cX ls A hx hb hr hml hown hts hlk hin hsz hAe hA hP hD hK hX hl
  subst hsz
  rw [← hAe]
  clear hAe
  have hl : lv_has ls 1 [(0, .ref h)] := hl
  have hS : va_S A s.heap s.heap [] := va_S.rf
  refine lv_aload_n hx hb dX2_init_0 rfl (lv_at hl 0 rfl) ?_
  refine W.objInit hx hb hown (hts _ wd2_19) (hts _ wd1_8) (hts _ wd1_9) rfl (by rw [hml]; exact hl.1) rfl dX2_init_1 (Nat.le_of_ble_eq_true rfl) (Nat.le_of_ble_eq_true rfl) ?_
  refine W.eq (g2 := F0 mX 4 ls []) rfl ?_
  refine lv_aload_n hx hb dX2_init_4 rfl (lv_at hl 0 rfl) ?_
  refine lv_sipush (v := (nI 144)) hx hb dX2_init_5 (by decide) ?_
  refine nw_I hx hb (hts _ wd2_14) hK hP hD hS hA (N' := 144) (by decide) (by decide) (Nat.le_of_ble_eq_true rfl) (Nat.le_of_ble_eq_true rfl) (Nat.le_of_ble_eq_true rfl) dX2_init_8 (fun q8 H hP hD hS => ?_)
  have hP : va_P g vwCl [(h, .inr (2, [.null, .null, .int (nI 0)])), aI cy q8 144 (fun _ => 0)] H := hP
  have hD : va_D A [(h, .inr (2, [.null, .null, .int (nI 0)])), aI cy q8 144 (fun _ => 0)] := hD
  refine va_putF (D := g) (ci := 2) (v := .ref q8) (ty := (.array .int)) (C := RX2) (T := TX2) (N := 3) hx hb hts bgX2 tyX2 tyX2_ok nmX2 hown hK hP hD hS 0 rfl rfl 0 (by decide) (hts _ wd2_20) (fun _ h9 => h9) rfl hin rfl (by decide +kernel) rfl rfl (Nat.le_of_ble_eq_true rfl) dX2_init_10 (fun H locs hP hD hS => ?_)
  have hP : va_P g vwCl [(h, .inr (2, [.ref q8, .null, .int (nI 0)])), aI cy q8 144 (fun _ => 0)] H := hP
  have hD : va_D A [(h, .inr (2, [.ref q8, .null, .int (nI 0)])), aI cy q8 144 (fun _ => 0)] := hD
  refine lv_aload_n hx hb dX2_init_13 rfl (lv_at hl 0 rfl) ?_
  refine lv_bipush (v := (nI 12)) hx hb dX2_init_14 (by decide) ?_
  refine nw_I hx hb (hts _ wd2_14) hK hP hD hS hA (N' := 12) (by decide) (by decide) (Nat.le_of_ble_eq_true rfl) (Nat.le_of_ble_eq_true rfl) (Nat.le_of_ble_eq_true rfl) dX2_init_16 (fun q16 H hP hD hS => ?_)
  have hP : va_P g vwCl [(h, .inr (2, [.ref q8, .null, .int (nI 0)])), aI cy q8 144 (fun _ => 0), aI cy q16 12 (fun _ => 0)] H := hP
  have hD : va_D A [(h, .inr (2, [.ref q8, .null, .int (nI 0)])), aI cy q8 144 (fun _ => 0), aI cy q16 12 (fun _ => 0)] := hD
  refine va_putF (D := g) (ci := 2) (v := .ref q16) (ty := (.array .int)) (C := RX2) (T := TX2) (N := 3) hx hb hts bgX2 tyX2 tyX2_ok nmX2 hown hK hP hD hS 0 rfl rfl 1 (by decide) (hts _ wd2_21) (fun _ h9 => h9) rfl hin rfl (by decide +kernel) rfl rfl (Nat.le_of_ble_eq_true rfl) dX2_init_18 (fun H locs hP hD hS => ?_)
  have hP : va_P g vwCl [(h, .inr (2, [.ref q8, .ref q16, .int (nI 0)])), aI cy q8 144 (fun _ => 0), aI cy q16 12 (fun _ => 0)] H := hP
  have hD : va_D A [(h, .inr (2, [.ref q8, .ref q16, .int (nI 0)])), aI cy q8 144 (fun _ => 0), aI cy q16 12 (fun _ => 0)] := hD
  exact W.widen (Nat.le_of_ble_eq_true rfl) (Nat.le_of_ble_eq_true rfl) (cn_v (fun k => match k with | 0 => h | 1 => q8 | _ => q16) rfl hP hD hS hx hb hr dX2_init_21 hlk)
set_option maxHeartbeats 4000000 in
set_option maxRecDepth 100000 in
theorem c_X3_init (l : Launch) (g : va_G) (cy : Nat → ClassId) (h : Nat) (sz : Nat) (mo : Nat) (wi : Nat) (nn : Nat) (hnn : mo * wi = nn ∧ nn ≤ 120) : Met l yX3_init (Cond.code yX3_init cX3_init 3 none :: wsL_law) ({ frames := 1, cells := 1, slots := 120, locals := 14 } : Room) (va_Pc [.ref h, .int (nI mo), .int (nI wi)] (pr g cy [(h, .inr (3, [.int (nI 0), .int (nI 0), .null, .int (nI 0)]))] sz)) (cn_Q (fun ad : Nat → Nat => (ad 0 = h)) (fun ad : Nat → Nat => [((ad 0), .inr (3, [.int (nI mo), .int (nI wi), .ref (ad 1), .int (nI 0)])), aI cy (ad 1) nn (fun _ => 0)]) g (va_A [(h, .inr (3, [.int (nI 0), .int (nI 0), .null, .int (nI 0)]))] sz)) 1 120 (va_A [(h, .inr (3, [.int (nI 0), .int (nI 0), .null, .int (nI 0)]))] sz) := by
  refine mt_of (cc := cX3_init) (maxL := 3) (ret := none) (by decide +kernel) (Nat.le_of_ble_eq_true rfl) ?_
  intro pX eX s mX below meth cX ls A hx hb hr hml hown hts hlk hin hsz hAe hA hP hD hK hX hl
  subst hsz
  rw [← hAe]
  clear hAe
  have hl : lv_has ls 3 [(0, .ref h), (1, .int (nI mo)), (2, .int (nI wi))] := hl
  have hS : va_S A s.heap s.heap [] := va_S.rf
  refine lv_aload_n hx hb dX3_init_0 rfl (lv_at hl 0 rfl) ?_
  refine W.objInit hx hb hown (hts _ wd3_1) (hts _ wd1_8) (hts _ wd1_9) rfl (by rw [hml]; exact hl.1) rfl dX3_init_1 (Nat.le_of_ble_eq_true rfl) (Nat.le_of_ble_eq_true rfl) ?_
  refine W.eq (g2 := F0 mX 4 ls []) rfl ?_
  refine lv_aload_n hx hb dX3_init_4 rfl (lv_at hl 0 rfl) ?_
  refine lv_iload_n hx hb dX3_init_5 rfl (lv_at hl 1 rfl) ?_
  refine va_putF (D := g) (ci := 3) (v := .int (nI mo)) (ty := .int) (C := RX3) (T := TX3) (N := 4) hx hb hts bgX3 tyX3 tyX3_ok nmX3 hown hK hP hD hS 0 rfl rfl 0 (by decide) (hts _ wd3_2) (fun _ h9 => h9) rfl hin rfl (by decide +kernel) rfl rfl (Nat.le_of_ble_eq_true rfl) dX3_init_6 (fun H locs hP hD hS => ?_)
  have hP : va_P g vwCl [(h, .inr (3, [.int (nI mo), .int (nI 0), .null, .int (nI 0)]))] H := hP
  have hD : va_D A [(h, .inr (3, [.int (nI mo), .int (nI 0), .null, .int (nI 0)]))] := hD
  refine lv_aload_n hx hb dX3_init_9 rfl (lv_at hl 0 rfl) ?_
  refine lv_iload_n hx hb dX3_init_10 rfl (lv_at hl 2 rfl) ?_
  refine va_putF (D := g) (ci := 3) (v := .int (nI wi)) (ty := .int) (C := RX3) (T := TX3) (N := 4) hx hb hts bgX3 tyX3 tyX3_ok nmX3 hown hK hP hD hS 0 rfl rfl 1 (by decide) (hts _ wd3_3) (fun _ h9 => h9) rfl hin rfl (by decide +kernel) rfl rfl (Nat.le_of_ble_eq_true rfl) dX3_init_11 (fun H locs hP hD hS => ?_)
  have hP : va_P g vwCl [(h, .inr (3, [.int (nI mo), .int (nI wi), .null, .int (nI 0)]))] H := hP
  have hD : va_D A [(h, .inr (3, [.int (nI mo), .int (nI wi), .null, .int (nI 0)]))] := hD
  refine lv_aload_n hx hb dX3_init_14 rfl (lv_at hl 0 rfl) ?_
  refine lv_iconst (v := (nI 0)) hx hb dX3_init_15 (by decide) ?_
  refine lv_iload_n hx hb dX3_init_16 rfl (lv_at hl 1 rfl) ?_
  refine lv_iload_n hx hb dX3_init_17 rfl (lv_at hl 2 rfl) ?_
  refine lv_imul hx hb dX3_init_18 ?_
  refine ti (pk_mul mo wi) ?_
  refine ti (show (nI (mo * wi)) = (nI nn) from (congrArg nI hnn.1)) ?_
  refine va_mmax hx hb (by rw [hml]; exact hl.1.symm) hown (hts _ wd3_4) (hts _ wd3_5) (hts _ wd3_6) (hts _ wd3_7) (Nat.le_of_ble_eq_true rfl) (Nat.le_of_ble_eq_true rfl) (Nat.zero_le _) (Nat.zero_le _) dX3_init_19 ?_
  refine ti (show (if (nI 0) < (nI nn) then (nI nn) else (nI 0)) = (nI nn) from (by split; rfl; rename_i h9; exact (congrArg nI (show nn = 0 from nz_le h9 (by omega))).symm)) ?_
  refine nw_I hx hb (hts _ wd2_14) hK hP hD hS hA (N' := nn) (nI_pos (by omega)) (nI_clamp (by omega)) (by omega) (Nat.le_of_ble_eq_true rfl) (by show 0 + nn ≤ 120; omega) dX3_init_22 (fun q22 H hP hD hS => ?_)
  have hP : va_P g vwCl [(h, .inr (3, [.int (nI mo), .int (nI wi), .null, .int (nI 0)])), aI cy q22 nn (fun _ => 0)] H := hP
  have hD : va_D A [(h, .inr (3, [.int (nI mo), .int (nI wi), .null, .int (nI 0)])), aI cy q22 nn (fun _ => 0)] := hD
  refine va_putF (D := g) (ci := 3) (v := .ref q22) (ty := (.array .int)) (C := RX3) (T := TX3) (N := 4) hx hb hts bgX3 tyX3 tyX3_ok nmX3 hown hK hP hD hS 0 rfl rfl 2 (by decide) (hts _ wd3_8) (fun _ h9 => h9) rfl hin rfl (by decide +kernel) rfl rfl (Nat.le_of_ble_eq_true rfl) dX3_init_24 (fun H locs hP hD hS => ?_)
  have hP : va_P g vwCl [(h, .inr (3, [.int (nI mo), .int (nI wi), .ref q22, .int (nI 0)])), aI cy q22 nn (fun _ => 0)] H := hP
  have hD : va_D A [(h, .inr (3, [.int (nI mo), .int (nI wi), .ref q22, .int (nI 0)])), aI cy q22 nn (fun _ => 0)] := hD
  exact W.widen (Nat.le_of_ble_eq_true rfl) (by omega) (cn_v (fun k => match k with | 0 => h | _ => q22) rfl hP hD hS hx hb hr dX3_init_27 hlk)
set_option maxHeartbeats 4000000 in
set_option maxRecDepth 100000 in
theorem c_X6_init (l : Launch) (g : va_G) (cy : Nat → ClassId) (h : Nat) (sz : Nat)  : Met l yX6_init (Cond.code yX6_init cX6_init 1 none :: wsL_law) ({ frames := 1, cells := 2, slots := 124, locals := 12 } : Room) (va_Pc [.ref h] (pr g cy [(h, .inr (4, [.null, .int (nI 0), .int (nI 0), .int (nI 0), .null, .int (nI 0)]))] sz)) (cn_Q (fun ad : Nat → Nat => (ad 0 = h)) (fun ad : Nat → Nat => [((ad 0), .inr (4, [.ref (ad 1), .int (nI 0), .int (nI 0), .int (nI 0), .ref (ad 2), .int (nI 0)])), aI cy (ad 1) 120 (fun _ => 0), aI cy (ad 2) 4 (fun _ => 0)]) g (va_A [(h, .inr (4, [.null, .int (nI 0), .int (nI 0), .int (nI 0), .null, .int (nI 0)]))] sz)) 2 124 (va_A [(h, .inr (4, [.null, .int (nI 0), .int (nI 0), .int (nI 0), .null, .int (nI 0)]))] sz) := by
  refine mt_of (cc := cX6_init) (maxL := 1) (ret := none) (by decide +kernel) (Nat.le_of_ble_eq_true rfl) ?_
  intro pX eX s mX below meth cX ls A hx hb hr hml hown hts hlk hin hsz hAe hA hP hD hK hX hl
  subst hsz
  rw [← hAe]
  clear hAe
  have hl : lv_has ls 1 [(0, .ref h)] := hl
  have hS : va_S A s.heap s.heap [] := va_S.rf
  refine lv_aload_n hx hb dX6_init_0 rfl (lv_at hl 0 rfl) ?_
  refine W.objInit hx hb hown (hts _ wd3_17) (hts _ wd1_8) (hts _ wd1_9) rfl (by rw [hml]; exact hl.1) rfl dX6_init_1 (Nat.le_of_ble_eq_true rfl) (Nat.le_of_ble_eq_true rfl) ?_
  refine W.eq (g2 := F0 mX 4 ls []) rfl ?_
  refine lv_aload_n hx hb dX6_init_4 rfl (lv_at hl 0 rfl) ?_
  refine lv_bipush (v := (nI 120)) hx hb dX6_init_5 (by decide) ?_
  refine nw_I hx hb (hts _ wd2_14) hK hP hD hS hA (N' := 120) (by decide) (by decide) (Nat.le_of_ble_eq_true rfl) (Nat.le_of_ble_eq_true rfl) (Nat.le_of_ble_eq_true rfl) dX6_init_7 (fun q7 H hP hD hS => ?_)
  have hP : va_P g vwCl [(h, .inr (4, [.null, .int (nI 0), .int (nI 0), .int (nI 0), .null, .int (nI 0)])), aI cy q7 120 (fun _ => 0)] H := hP
  have hD : va_D A [(h, .inr (4, [.null, .int (nI 0), .int (nI 0), .int (nI 0), .null, .int (nI 0)])), aI cy q7 120 (fun _ => 0)] := hD
  refine va_putF (D := g) (ci := 4) (v := .ref q7) (ty := (.array .int)) (C := RX6) (T := TX6) (N := 6) hx hb hts bgX6 tyX6 tyX6_ok nmX6 hown hK hP hD hS 0 rfl rfl 0 (by decide) (hts _ wd3_18) (fun _ h9 => h9) rfl hin rfl (by decide +kernel) rfl rfl (Nat.le_of_ble_eq_true rfl) dX6_init_9 (fun H locs hP hD hS => ?_)
  have hP : va_P g vwCl [(h, .inr (4, [.ref q7, .int (nI 0), .int (nI 0), .int (nI 0), .null, .int (nI 0)])), aI cy q7 120 (fun _ => 0)] H := hP
  have hD : va_D A [(h, .inr (4, [.ref q7, .int (nI 0), .int (nI 0), .int (nI 0), .null, .int (nI 0)])), aI cy q7 120 (fun _ => 0)] := hD
  refine lv_aload_n hx hb dX6_init_12 rfl (lv_at hl 0 rfl) ?_
  refine lv_iconst (v := (nI 4)) hx hb dX6_init_13 (by decide) ?_
  refine nw_I hx hb (hts _ wd2_14) hK hP hD hS hA (N' := 4) (by decide) (by decide) (Nat.le_of_ble_eq_true rfl) (Nat.le_of_ble_eq_true rfl) (Nat.le_of_ble_eq_true rfl) dX6_init_14 (fun q14 H hP hD hS => ?_)
  have hP : va_P g vwCl [(h, .inr (4, [.ref q7, .int (nI 0), .int (nI 0), .int (nI 0), .null, .int (nI 0)])), aI cy q7 120 (fun _ => 0), aI cy q14 4 (fun _ => 0)] H := hP
  have hD : va_D A [(h, .inr (4, [.ref q7, .int (nI 0), .int (nI 0), .int (nI 0), .null, .int (nI 0)])), aI cy q7 120 (fun _ => 0), aI cy q14 4 (fun _ => 0)] := hD
  refine va_putF (D := g) (ci := 4) (v := .ref q14) (ty := (.array .int)) (C := RX6) (T := TX6) (N := 6) hx hb hts bgX6 tyX6 tyX6_ok nmX6 hown hK hP hD hS 0 rfl rfl 4 (by decide) (hts _ wd3_19) (fun _ h9 => h9) rfl hin rfl (by decide +kernel) rfl rfl (Nat.le_of_ble_eq_true rfl) dX6_init_16 (fun H locs hP hD hS => ?_)
  have hP : va_P g vwCl [(h, .inr (4, [.ref q7, .int (nI 0), .int (nI 0), .int (nI 0), .ref q14, .int (nI 0)])), aI cy q7 120 (fun _ => 0), aI cy q14 4 (fun _ => 0)] H := hP
  have hD : va_D A [(h, .inr (4, [.ref q7, .int (nI 0), .int (nI 0), .int (nI 0), .ref q14, .int (nI 0)])), aI cy q7 120 (fun _ => 0), aI cy q14 4 (fun _ => 0)] := hD
  exact W.widen (Nat.le_of_ble_eq_true rfl) (Nat.le_of_ble_eq_true rfl) (cn_v (fun k => match k with | 0 => h | 1 => q7 | _ => q14) rfl hP hD hS hx hb hr dX6_init_19 hlk)
set_option maxHeartbeats 4000000 in
set_option maxRecDepth 100000 in
theorem c_X0_init (l : Launch) (g : va_G) (cy : Nat → ClassId) (h : Nat) (sz : Nat)  : Met l yX0_init (Cond.code yX0_init cX0_init 1 none :: wsL_law) ({ frames := 2, cells := 9, slots := 421, locals := 36 } : Room) (va_Pc [.ref h] (pr g cy [(h, .inr (0, [.null, .null, .null, .null, .null, .int (nI 0), .int (nI 0), .int (nI 0), .int (nI 0), .int (nI 0), .int (nI 0)]))] sz)) (cn_Q (fun ad : Nat → Nat => (ad 0 = h)) (fun ad : Nat → Nat => [(ad 0, .inr (0, [.ref (ad 1), .ref (ad 4), .ref (ad 6), .ref (ad 8), .ref (ad 9), .int (nI (z9 2)), .int (nI (z9 3)), .int (nI (z9 4)), .int (nI (z9 5)), .int (nI (z9 6)), .int (nI (z9 7))])), (ad 1, .inr (2, [.ref (ad 2), .ref (ad 3), .int (nI 0)])), aI cy (ad 2) 144 (fun _ => 0), aI cy (ad 3) 12 (fun _ => 0), (ad 4, .inr (3, [.int (nI 6), .int (nI 11), .ref (ad 5), .int (nI (z9 0))])), aI cy (ad 5) 66 (fun _ => 0), (ad 6, .inr (3, [.int (nI 20), .int (nI 6), .ref (ad 7), .int (nI (z9 1))])), aI cy (ad 7) 120 (fun _ => 0), aI cy (ad 8) 8 (fun _ => 0), aI cy (ad 9) 6 (fun _ => 0)]) g (va_A [(h, .inr (0, [.null, .null, .null, .null, .null, .int (nI 0), .int (nI 0), .int (nI 0), .int (nI 0), .int (nI 0), .int (nI 0)]))] sz)) 9 421 (va_A [(h, .inr (0, [.null, .null, .null, .null, .null, .int (nI 0), .int (nI 0), .int (nI 0), .int (nI 0), .int (nI 0), .int (nI 0)]))] sz) := by
  refine mt_of (cc := cX0_init) (maxL := 1) (ret := none) (by decide +kernel) (Nat.le_of_ble_eq_true rfl) ?_
  intro pX eX s mX below meth cX ls A hx hb hr hml hown hts hlk hin hsz hAe hA hP hD hK hX hl
  subst hsz
  rw [← hAe]
  clear hAe
  have hl : lv_has ls 1 [(0, .ref h)] := hl
  have hS : va_S A s.heap s.heap [] := va_S.rf
  refine lv_aload_n hx hb dX0_init_0 rfl (lv_at hl 0 rfl) ?_
  refine W.objInit hx hb hown (hts _ wd2_4) (hts _ wd1_8) (hts _ wd1_9) rfl (by rw [hml]; exact hl.1) rfl dX0_init_1 (Nat.le_of_ble_eq_true rfl) (Nat.le_of_ble_eq_true rfl) ?_
  refine W.eq (g2 := F0 mX 4 ls []) rfl ?_
  refine lv_aload_n hx hb dX0_init_4 rfl (lv_at hl 0 rfl) ?_
  refine va_new (ci := 2) (fs := [.null, .null, .int (nI 0)]) (C := RX2) (T := TX2) (N := 3) hx hb hts bgX2 tyX2 tyX2_ok hown (hts _ wd2_5) (hts _ wd2_6) (hts _ wd2_7) hK hP hD hS hA rfl (fun j hj => by rcases (show j = 0 ∨ j = 1 ∨ j = 2 by omega) with rfl | rfl | rfl <;> rfl) (Nat.le_of_ble_eq_true rfl) (Nat.le_of_ble_eq_true rfl) dX0_init_5 (fun q5 H hP hD hS => ?_)
  have hP : va_P g vwCl [(h, .inr (0, [.null, .null, .null, .null, .null, .int (nI 0), .int (nI 0), .int (nI 0), .int (nI 0), .int (nI 0), .int (nI 0)])), (q5, .inr (2, [.null, .null, .int (nI 0)]))] H := hP
  have hD : va_D A [(h, .inr (0, [.null, .null, .null, .null, .null, .int (nI 0), .int (nI 0), .int (nI 0), .int (nI 0), .int (nI 0), .int (nI 0)])), (q5, .inr (2, [.null, .null, .int (nI 0)]))] := hD
  refine lv_dup hx hb dX0_init_8 rfl ?_
  refine cn_call (ws := [(h, .inr (0, [.null, .null, .null, .null, .null, .int (nI 0), .int (nI 0), .int (nI 0), .int (nI 0), .int (nI 0), .int (nI 0)]))]) (va_runIN (As := []) (rest := [.ref q5, .ref h]) ⟨hx, hb, hml, hown, hts⟩ (c_X2_init l g cy q5 H.size  ) ⟨va_cnB 0 hts (bg_call wd2_18) rfl rfl rfl (nM_1 hX) (hts _ wd2_7) (by decide +kernel) ⟨Nat.le_of_ble_eq_true rfl, Nat.le_of_ble_eq_true rfl⟩, rfl, hts _ wd2_17⟩ (pn (ws := [(h, .inr (0, [.null, .null, .null, .null, .null, .int (nI 0), .int (nI 0), .int (nI 0), .int (nI 0), .int (nI 0), .int (nI 0)]))]) hK hP hD hS hA hX) rfl rfl hl.1 rfl (lv_room (Nat.le_of_ble_eq_true rfl)) dX0_init_9 ⟨Nat.le_of_ble_eq_true rfl, Nat.le_of_ble_eq_true rfl⟩) hP hD hS hA ?_
  rintro ad_9 H locs ha_9 hP8 hD8 hS8
  have ha_9 : ad_9 0 = q5 := ha_9
  subst ha_9
  have hP := hP8
  have hD := hD8
  have hS := hS8
  have hP : va_P g vwCl [(h, .inr (0, [.null, .null, .null, .null, .null, .int (nI 0), .int (nI 0), .int (nI 0), .int (nI 0), .int (nI 0), .int (nI 0)])), (ad_9 0, .inr (2, [.ref (ad_9 1), .ref (ad_9 2), .int (nI 0)])), aI cy (ad_9 1) 144 (fun _ => 0), aI cy (ad_9 2) 12 (fun _ => 0)] H := hP
  have hD : va_D A [(h, .inr (0, [.null, .null, .null, .null, .null, .int (nI 0), .int (nI 0), .int (nI 0), .int (nI 0), .int (nI 0), .int (nI 0)])), (ad_9 0, .inr (2, [.ref (ad_9 1), .ref (ad_9 2), .int (nI 0)])), aI cy (ad_9 1) 144 (fun _ => 0), aI cy (ad_9 2) 12 (fun _ => 0)] := hD
  refine va_putF (D := g) (ci := 0) (v := .ref (ad_9 0)) (ty := (.object "DogBoard$Quarter")) (C := RX0) (T := TX0) (N := 11) hx hb hts bgX0 tyX0 tyX0_ok nmX0 hown hK hP hD hS 0 rfl rfl 0 (by decide) (hts _ wd2_8) (fun _ h9 => h9) rfl hin rfl (by decide +kernel) rfl rfl (Nat.le_of_ble_eq_true rfl) dX0_init_12 (fun H locs hP hD hS => ?_)
  have hP : va_P g vwCl [(h, .inr (0, [.ref (ad_9 0), .null, .null, .null, .null, .int (nI 0), .int (nI 0), .int (nI 0), .int (nI 0), .int (nI 0), .int (nI 0)])), (ad_9 0, .inr (2, [.ref (ad_9 1), .ref (ad_9 2), .int (nI 0)])), aI cy (ad_9 1) 144 (fun _ => 0), aI cy (ad_9 2) 12 (fun _ => 0)] H := hP
  have hD : va_D A [(h, .inr (0, [.ref (ad_9 0), .null, .null, .null, .null, .int (nI 0), .int (nI 0), .int (nI 0), .int (nI 0), .int (nI 0), .int (nI 0)])), (ad_9 0, .inr (2, [.ref (ad_9 1), .ref (ad_9 2), .int (nI 0)])), aI cy (ad_9 1) 144 (fun _ => 0), aI cy (ad_9 2) 12 (fun _ => 0)] := hD
  refine lv_aload_n hx hb dX0_init_15 rfl (lv_at hl 0 rfl) ?_
  refine va_new (ci := 3) (fs := [.int (nI 0), .int (nI 0), .null, .int (nI 0)]) (C := RX3) (T := TX3) (N := 4) hx hb hts bgX3 tyX3 tyX3_ok hown (hts _ wd2_9) (hts _ wd2_10) (hts _ wd2_11) hK hP hD hS hA rfl (fun j hj => by rcases (show j = 0 ∨ j = 1 ∨ j = 2 ∨ j = 3 by omega) with rfl | rfl | rfl | rfl <;> rfl) (Nat.le_of_ble_eq_true rfl) (Nat.le_of_ble_eq_true rfl) dX0_init_16 (fun q16 H hP hD hS => ?_)
  have hP : va_P g vwCl [(h, .inr (0, [.ref (ad_9 0), .null, .null, .null, .null, .int (nI 0), .int (nI 0), .int (nI 0), .int (nI 0), .int (nI 0), .int (nI 0)])), (ad_9 0, .inr (2, [.ref (ad_9 1), .ref (ad_9 2), .int (nI 0)])), aI cy (ad_9 1) 144 (fun _ => 0), aI cy (ad_9 2) 12 (fun _ => 0), (q16, .inr (3, [.int (nI 0), .int (nI 0), .null, .int (nI 0)]))] H := hP
  have hD : va_D A [(h, .inr (0, [.ref (ad_9 0), .null, .null, .null, .null, .int (nI 0), .int (nI 0), .int (nI 0), .int (nI 0), .int (nI 0), .int (nI 0)])), (ad_9 0, .inr (2, [.ref (ad_9 1), .ref (ad_9 2), .int (nI 0)])), aI cy (ad_9 1) 144 (fun _ => 0), aI cy (ad_9 2) 12 (fun _ => 0), (q16, .inr (3, [.int (nI 0), .int (nI 0), .null, .int (nI 0)]))] := hD
  refine lv_dup hx hb dX0_init_19 rfl ?_
  refine lv_bipush (v := (nI 6)) hx hb dX0_init_20 (by decide) ?_
  refine lv_bipush (v := (nI 11)) hx hb dX0_init_22 (by decide) ?_
  refine cn_call (ws := [(h, .inr (0, [.ref (ad_9 0), .null, .null, .null, .null, .int (nI 0), .int (nI 0), .int (nI 0), .int (nI 0), .int (nI 0), .int (nI 0)])), (ad_9 0, .inr (2, [.ref (ad_9 1), .ref (ad_9 2), .int (nI 0)])), aI cy (ad_9 1) 144 (fun _ => 0), aI cy (ad_9 2) 12 (fun _ => 0)]) (va_runI (As := [.int (nI 6), .int (nI 11)]) (rest := [.ref q16, .ref h]) ⟨hx, hb, hml, hown, hts⟩ (c_X3_init l g cy q16 H.size 6 11 66 (by decide)) ⟨cB 2 hts wd3_0 wd2_11 wd2_22 rfl rfl (by decide +kernel) ⟨Nat.le_of_ble_eq_true rfl, Nat.le_of_ble_eq_true rfl⟩, rfl, hts _ wd2_23⟩ (pn (ws := [(h, .inr (0, [.ref (ad_9 0), .null, .null, .null, .null, .int (nI 0), .int (nI 0), .int (nI 0), .int (nI 0), .int (nI 0), .int (nI 0)])), (ad_9 0, .inr (2, [.ref (ad_9 1), .ref (ad_9 2), .int (nI 0)])), aI cy (ad_9 1) 144 (fun _ => 0), aI cy (ad_9 2) 12 (fun _ => 0)]) hK hP hD hS hA hX) rfl rfl hl.1 rfl (lv_room (Nat.le_of_ble_eq_true rfl)) dX0_init_24 ⟨Nat.le_of_ble_eq_true rfl, Nat.le_of_ble_eq_true rfl⟩) hP hD hS hA ?_
  rintro ad_24 H locs ha_24 hP8 hD8 hS8
  have ha_24 : ad_24 0 = q16 := ha_24
  subst ha_24
  have hP := hP8
  have hD := hD8
  have hS := hS8
  have hP : va_P g vwCl [(h, .inr (0, [.ref (ad_9 0), .null, .null, .null, .null, .int (nI 0), .int (nI 0), .int (nI 0), .int (nI 0), .int (nI 0), .int (nI 0)])), (ad_9 0, .inr (2, [.ref (ad_9 1), .ref (ad_9 2), .int (nI 0)])), aI cy (ad_9 1) 144 (fun _ => 0), aI cy (ad_9 2) 12 (fun _ => 0), (ad_24 0, .inr (3, [.int (nI 6), .int (nI 11), .ref (ad_24 1), .int (nI 0)])), aI cy (ad_24 1) 66 (fun _ => 0)] H := hP
  have hD : va_D A [(h, .inr (0, [.ref (ad_9 0), .null, .null, .null, .null, .int (nI 0), .int (nI 0), .int (nI 0), .int (nI 0), .int (nI 0), .int (nI 0)])), (ad_9 0, .inr (2, [.ref (ad_9 1), .ref (ad_9 2), .int (nI 0)])), aI cy (ad_9 1) 144 (fun _ => 0), aI cy (ad_9 2) 12 (fun _ => 0), (ad_24 0, .inr (3, [.int (nI 6), .int (nI 11), .ref (ad_24 1), .int (nI 0)])), aI cy (ad_24 1) 66 (fun _ => 0)] := hD
  refine va_putF (D := g) (ci := 0) (v := .ref (ad_24 0)) (ty := (.object "DogBoard$Rows")) (C := RX0) (T := TX0) (N := 11) hx hb hts bgX0 tyX0 tyX0_ok nmX0 hown hK hP hD hS 0 rfl rfl 1 (by decide) (hts _ wd2_12) (fun _ h9 => h9) rfl hin rfl (by decide +kernel) rfl rfl (Nat.le_of_ble_eq_true rfl) dX0_init_27 (fun H locs hP hD hS => ?_)
  have hP : va_P g vwCl [(h, .inr (0, [.ref (ad_9 0), .ref (ad_24 0), .null, .null, .null, .int (nI 0), .int (nI 0), .int (nI 0), .int (nI 0), .int (nI 0), .int (nI 0)])), (ad_9 0, .inr (2, [.ref (ad_9 1), .ref (ad_9 2), .int (nI 0)])), aI cy (ad_9 1) 144 (fun _ => 0), aI cy (ad_9 2) 12 (fun _ => 0), (ad_24 0, .inr (3, [.int (nI 6), .int (nI 11), .ref (ad_24 1), .int (nI 0)])), aI cy (ad_24 1) 66 (fun _ => 0)] H := hP
  have hD : va_D A [(h, .inr (0, [.ref (ad_9 0), .ref (ad_24 0), .null, .null, .null, .int (nI 0), .int (nI 0), .int (nI 0), .int (nI 0), .int (nI 0), .int (nI 0)])), (ad_9 0, .inr (2, [.ref (ad_9 1), .ref (ad_9 2), .int (nI 0)])), aI cy (ad_9 1) 144 (fun _ => 0), aI cy (ad_9 2) 12 (fun _ => 0), (ad_24 0, .inr (3, [.int (nI 6), .int (nI 11), .ref (ad_24 1), .int (nI 0)])), aI cy (ad_24 1) 66 (fun _ => 0)] := hD
  refine lv_aload_n hx hb dX0_init_30 rfl (lv_at hl 0 rfl) ?_
  refine va_new (ci := 3) (fs := [.int (nI 0), .int (nI 0), .null, .int (nI 0)]) (C := RX3) (T := TX3) (N := 4) hx hb hts bgX3 tyX3 tyX3_ok hown (hts _ wd2_9) (hts _ wd2_10) (hts _ wd2_11) hK hP hD hS hA rfl (fun j hj => by rcases (show j = 0 ∨ j = 1 ∨ j = 2 ∨ j = 3 by omega) with rfl | rfl | rfl | rfl <;> rfl) (Nat.le_of_ble_eq_true rfl) (Nat.le_of_ble_eq_true rfl) dX0_init_31 (fun q31 H hP hD hS => ?_)
  have hP : va_P g vwCl [(h, .inr (0, [.ref (ad_9 0), .ref (ad_24 0), .null, .null, .null, .int (nI 0), .int (nI 0), .int (nI 0), .int (nI 0), .int (nI 0), .int (nI 0)])), (ad_9 0, .inr (2, [.ref (ad_9 1), .ref (ad_9 2), .int (nI 0)])), aI cy (ad_9 1) 144 (fun _ => 0), aI cy (ad_9 2) 12 (fun _ => 0), (ad_24 0, .inr (3, [.int (nI 6), .int (nI 11), .ref (ad_24 1), .int (nI 0)])), aI cy (ad_24 1) 66 (fun _ => 0), (q31, .inr (3, [.int (nI 0), .int (nI 0), .null, .int (nI 0)]))] H := hP
  have hD : va_D A [(h, .inr (0, [.ref (ad_9 0), .ref (ad_24 0), .null, .null, .null, .int (nI 0), .int (nI 0), .int (nI 0), .int (nI 0), .int (nI 0), .int (nI 0)])), (ad_9 0, .inr (2, [.ref (ad_9 1), .ref (ad_9 2), .int (nI 0)])), aI cy (ad_9 1) 144 (fun _ => 0), aI cy (ad_9 2) 12 (fun _ => 0), (ad_24 0, .inr (3, [.int (nI 6), .int (nI 11), .ref (ad_24 1), .int (nI 0)])), aI cy (ad_24 1) 66 (fun _ => 0), (q31, .inr (3, [.int (nI 0), .int (nI 0), .null, .int (nI 0)]))] := hD
  refine lv_dup hx hb dX0_init_34 rfl ?_
  refine lv_bipush (v := (nI 20)) hx hb dX0_init_35 (by decide) ?_
  refine lv_bipush (v := (nI 6)) hx hb dX0_init_37 (by decide) ?_
  refine cn_call (ws := [(h, .inr (0, [.ref (ad_9 0), .ref (ad_24 0), .null, .null, .null, .int (nI 0), .int (nI 0), .int (nI 0), .int (nI 0), .int (nI 0), .int (nI 0)])), (ad_9 0, .inr (2, [.ref (ad_9 1), .ref (ad_9 2), .int (nI 0)])), aI cy (ad_9 1) 144 (fun _ => 0), aI cy (ad_9 2) 12 (fun _ => 0), (ad_24 0, .inr (3, [.int (nI 6), .int (nI 11), .ref (ad_24 1), .int (nI 0)])), aI cy (ad_24 1) 66 (fun _ => 0)]) (va_runI (As := [.int (nI 20), .int (nI 6)]) (rest := [.ref q31, .ref h]) ⟨hx, hb, hml, hown, hts⟩ (c_X3_init l g cy q31 H.size 20 6 120 (by decide)) ⟨cB 2 hts wd3_0 wd2_11 wd2_22 rfl rfl (by decide +kernel) ⟨Nat.le_of_ble_eq_true rfl, Nat.le_of_ble_eq_true rfl⟩, rfl, hts _ wd2_23⟩ (pn (ws := [(h, .inr (0, [.ref (ad_9 0), .ref (ad_24 0), .null, .null, .null, .int (nI 0), .int (nI 0), .int (nI 0), .int (nI 0), .int (nI 0), .int (nI 0)])), (ad_9 0, .inr (2, [.ref (ad_9 1), .ref (ad_9 2), .int (nI 0)])), aI cy (ad_9 1) 144 (fun _ => 0), aI cy (ad_9 2) 12 (fun _ => 0), (ad_24 0, .inr (3, [.int (nI 6), .int (nI 11), .ref (ad_24 1), .int (nI 0)])), aI cy (ad_24 1) 66 (fun _ => 0)]) hK hP hD hS hA hX) rfl rfl hl.1 rfl (lv_room (Nat.le_of_ble_eq_true rfl)) dX0_init_39 ⟨Nat.le_of_ble_eq_true rfl, Nat.le_of_ble_eq_true rfl⟩) hP hD hS hA ?_
  rintro ad_39 H locs ha_39 hP8 hD8 hS8
  have ha_39 : ad_39 0 = q31 := ha_39
  subst ha_39
  have hP := hP8
  have hD := hD8
  have hS := hS8
  have hP : va_P g vwCl [(h, .inr (0, [.ref (ad_9 0), .ref (ad_24 0), .null, .null, .null, .int (nI 0), .int (nI 0), .int (nI 0), .int (nI 0), .int (nI 0), .int (nI 0)])), (ad_9 0, .inr (2, [.ref (ad_9 1), .ref (ad_9 2), .int (nI 0)])), aI cy (ad_9 1) 144 (fun _ => 0), aI cy (ad_9 2) 12 (fun _ => 0), (ad_24 0, .inr (3, [.int (nI 6), .int (nI 11), .ref (ad_24 1), .int (nI 0)])), aI cy (ad_24 1) 66 (fun _ => 0), (ad_39 0, .inr (3, [.int (nI 20), .int (nI 6), .ref (ad_39 1), .int (nI 0)])), aI cy (ad_39 1) 120 (fun _ => 0)] H := hP
  have hD : va_D A [(h, .inr (0, [.ref (ad_9 0), .ref (ad_24 0), .null, .null, .null, .int (nI 0), .int (nI 0), .int (nI 0), .int (nI 0), .int (nI 0), .int (nI 0)])), (ad_9 0, .inr (2, [.ref (ad_9 1), .ref (ad_9 2), .int (nI 0)])), aI cy (ad_9 1) 144 (fun _ => 0), aI cy (ad_9 2) 12 (fun _ => 0), (ad_24 0, .inr (3, [.int (nI 6), .int (nI 11), .ref (ad_24 1), .int (nI 0)])), aI cy (ad_24 1) 66 (fun _ => 0), (ad_39 0, .inr (3, [.int (nI 20), .int (nI 6), .ref (ad_39 1), .int (nI 0)])), aI cy (ad_39 1) 120 (fun _ => 0)] := hD
  refine va_putF (D := g) (ci := 0) (v := .ref (ad_39 0)) (ty := (.object "DogBoard$Rows")) (C := RX0) (T := TX0) (N := 11) hx hb hts bgX0 tyX0 tyX0_ok nmX0 hown hK hP hD hS 0 rfl rfl 2 (by decide) (hts _ wd2_13) (fun _ h9 => h9) rfl hin rfl (by decide +kernel) rfl rfl (Nat.le_of_ble_eq_true rfl) dX0_init_42 (fun H locs hP hD hS => ?_)
  have hP : va_P g vwCl [(h, .inr (0, [.ref (ad_9 0), .ref (ad_24 0), .ref (ad_39 0), .null, .null, .int (nI 0), .int (nI 0), .int (nI 0), .int (nI 0), .int (nI 0), .int (nI 0)])), (ad_9 0, .inr (2, [.ref (ad_9 1), .ref (ad_9 2), .int (nI 0)])), aI cy (ad_9 1) 144 (fun _ => 0), aI cy (ad_9 2) 12 (fun _ => 0), (ad_24 0, .inr (3, [.int (nI 6), .int (nI 11), .ref (ad_24 1), .int (nI 0)])), aI cy (ad_24 1) 66 (fun _ => 0), (ad_39 0, .inr (3, [.int (nI 20), .int (nI 6), .ref (ad_39 1), .int (nI 0)])), aI cy (ad_39 1) 120 (fun _ => 0)] H := hP
  have hD : va_D A [(h, .inr (0, [.ref (ad_9 0), .ref (ad_24 0), .ref (ad_39 0), .null, .null, .int (nI 0), .int (nI 0), .int (nI 0), .int (nI 0), .int (nI 0), .int (nI 0)])), (ad_9 0, .inr (2, [.ref (ad_9 1), .ref (ad_9 2), .int (nI 0)])), aI cy (ad_9 1) 144 (fun _ => 0), aI cy (ad_9 2) 12 (fun _ => 0), (ad_24 0, .inr (3, [.int (nI 6), .int (nI 11), .ref (ad_24 1), .int (nI 0)])), aI cy (ad_24 1) 66 (fun _ => 0), (ad_39 0, .inr (3, [.int (nI 20), .int (nI 6), .ref (ad_39 1), .int (nI 0)])), aI cy (ad_39 1) 120 (fun _ => 0)] := hD
  refine lv_aload_n hx hb dX0_init_45 rfl (lv_at hl 0 rfl) ?_
  refine lv_bipush (v := (nI 8)) hx hb dX0_init_46 (by decide) ?_
  refine nw_I hx hb (hts _ wd2_14) hK hP hD hS hA (N' := 8) (by decide) (by decide) (Nat.le_of_ble_eq_true rfl) (Nat.le_of_ble_eq_true rfl) (Nat.le_of_ble_eq_true rfl) dX0_init_48 (fun q48 H hP hD hS => ?_)
  have hP : va_P g vwCl [(h, .inr (0, [.ref (ad_9 0), .ref (ad_24 0), .ref (ad_39 0), .null, .null, .int (nI 0), .int (nI 0), .int (nI 0), .int (nI 0), .int (nI 0), .int (nI 0)])), (ad_9 0, .inr (2, [.ref (ad_9 1), .ref (ad_9 2), .int (nI 0)])), aI cy (ad_9 1) 144 (fun _ => 0), aI cy (ad_9 2) 12 (fun _ => 0), (ad_24 0, .inr (3, [.int (nI 6), .int (nI 11), .ref (ad_24 1), .int (nI 0)])), aI cy (ad_24 1) 66 (fun _ => 0), (ad_39 0, .inr (3, [.int (nI 20), .int (nI 6), .ref (ad_39 1), .int (nI 0)])), aI cy (ad_39 1) 120 (fun _ => 0), aI cy q48 8 (fun _ => 0)] H := hP
  have hD : va_D A [(h, .inr (0, [.ref (ad_9 0), .ref (ad_24 0), .ref (ad_39 0), .null, .null, .int (nI 0), .int (nI 0), .int (nI 0), .int (nI 0), .int (nI 0), .int (nI 0)])), (ad_9 0, .inr (2, [.ref (ad_9 1), .ref (ad_9 2), .int (nI 0)])), aI cy (ad_9 1) 144 (fun _ => 0), aI cy (ad_9 2) 12 (fun _ => 0), (ad_24 0, .inr (3, [.int (nI 6), .int (nI 11), .ref (ad_24 1), .int (nI 0)])), aI cy (ad_24 1) 66 (fun _ => 0), (ad_39 0, .inr (3, [.int (nI 20), .int (nI 6), .ref (ad_39 1), .int (nI 0)])), aI cy (ad_39 1) 120 (fun _ => 0), aI cy q48 8 (fun _ => 0)] := hD
  refine va_putF (D := g) (ci := 0) (v := .ref q48) (ty := (.array .int)) (C := RX0) (T := TX0) (N := 11) hx hb hts bgX0 tyX0 tyX0_ok nmX0 hown hK hP hD hS 0 rfl rfl 3 (by decide) (hts _ wd2_15) (fun _ h9 => h9) rfl hin rfl (by decide +kernel) rfl rfl (Nat.le_of_ble_eq_true rfl) dX0_init_50 (fun H locs hP hD hS => ?_)
  have hP : va_P g vwCl [(h, .inr (0, [.ref (ad_9 0), .ref (ad_24 0), .ref (ad_39 0), .ref q48, .null, .int (nI 0), .int (nI 0), .int (nI 0), .int (nI 0), .int (nI 0), .int (nI 0)])), (ad_9 0, .inr (2, [.ref (ad_9 1), .ref (ad_9 2), .int (nI 0)])), aI cy (ad_9 1) 144 (fun _ => 0), aI cy (ad_9 2) 12 (fun _ => 0), (ad_24 0, .inr (3, [.int (nI 6), .int (nI 11), .ref (ad_24 1), .int (nI 0)])), aI cy (ad_24 1) 66 (fun _ => 0), (ad_39 0, .inr (3, [.int (nI 20), .int (nI 6), .ref (ad_39 1), .int (nI 0)])), aI cy (ad_39 1) 120 (fun _ => 0), aI cy q48 8 (fun _ => 0)] H := hP
  have hD : va_D A [(h, .inr (0, [.ref (ad_9 0), .ref (ad_24 0), .ref (ad_39 0), .ref q48, .null, .int (nI 0), .int (nI 0), .int (nI 0), .int (nI 0), .int (nI 0), .int (nI 0)])), (ad_9 0, .inr (2, [.ref (ad_9 1), .ref (ad_9 2), .int (nI 0)])), aI cy (ad_9 1) 144 (fun _ => 0), aI cy (ad_9 2) 12 (fun _ => 0), (ad_24 0, .inr (3, [.int (nI 6), .int (nI 11), .ref (ad_24 1), .int (nI 0)])), aI cy (ad_24 1) 66 (fun _ => 0), (ad_39 0, .inr (3, [.int (nI 20), .int (nI 6), .ref (ad_39 1), .int (nI 0)])), aI cy (ad_39 1) 120 (fun _ => 0), aI cy q48 8 (fun _ => 0)] := hD
  refine lv_aload_n hx hb dX0_init_53 rfl (lv_at hl 0 rfl) ?_
  refine lv_bipush (v := (nI 6)) hx hb dX0_init_54 (by decide) ?_
  refine nw_I hx hb (hts _ wd2_14) hK hP hD hS hA (N' := 6) (by decide) (by decide) (Nat.le_of_ble_eq_true rfl) (Nat.le_of_ble_eq_true rfl) (Nat.le_of_ble_eq_true rfl) dX0_init_56 (fun q56 H hP hD hS => ?_)
  have hP : va_P g vwCl [(h, .inr (0, [.ref (ad_9 0), .ref (ad_24 0), .ref (ad_39 0), .ref q48, .null, .int (nI 0), .int (nI 0), .int (nI 0), .int (nI 0), .int (nI 0), .int (nI 0)])), (ad_9 0, .inr (2, [.ref (ad_9 1), .ref (ad_9 2), .int (nI 0)])), aI cy (ad_9 1) 144 (fun _ => 0), aI cy (ad_9 2) 12 (fun _ => 0), (ad_24 0, .inr (3, [.int (nI 6), .int (nI 11), .ref (ad_24 1), .int (nI 0)])), aI cy (ad_24 1) 66 (fun _ => 0), (ad_39 0, .inr (3, [.int (nI 20), .int (nI 6), .ref (ad_39 1), .int (nI 0)])), aI cy (ad_39 1) 120 (fun _ => 0), aI cy q48 8 (fun _ => 0), aI cy q56 6 (fun _ => 0)] H := hP
  have hD : va_D A [(h, .inr (0, [.ref (ad_9 0), .ref (ad_24 0), .ref (ad_39 0), .ref q48, .null, .int (nI 0), .int (nI 0), .int (nI 0), .int (nI 0), .int (nI 0), .int (nI 0)])), (ad_9 0, .inr (2, [.ref (ad_9 1), .ref (ad_9 2), .int (nI 0)])), aI cy (ad_9 1) 144 (fun _ => 0), aI cy (ad_9 2) 12 (fun _ => 0), (ad_24 0, .inr (3, [.int (nI 6), .int (nI 11), .ref (ad_24 1), .int (nI 0)])), aI cy (ad_24 1) 66 (fun _ => 0), (ad_39 0, .inr (3, [.int (nI 20), .int (nI 6), .ref (ad_39 1), .int (nI 0)])), aI cy (ad_39 1) 120 (fun _ => 0), aI cy q48 8 (fun _ => 0), aI cy q56 6 (fun _ => 0)] := hD
  refine va_putF (D := g) (ci := 0) (v := .ref q56) (ty := (.array .int)) (C := RX0) (T := TX0) (N := 11) hx hb hts bgX0 tyX0 tyX0_ok nmX0 hown hK hP hD hS 0 rfl rfl 4 (by decide) (hts _ wd2_16) (fun _ h9 => h9) rfl hin rfl (by decide +kernel) rfl rfl (Nat.le_of_ble_eq_true rfl) dX0_init_58 (fun H locs hP hD hS => ?_)
  have hP : va_P g vwCl [(h, .inr (0, [.ref (ad_9 0), .ref (ad_24 0), .ref (ad_39 0), .ref q48, .ref q56, .int (nI 0), .int (nI 0), .int (nI 0), .int (nI 0), .int (nI 0), .int (nI 0)])), (ad_9 0, .inr (2, [.ref (ad_9 1), .ref (ad_9 2), .int (nI 0)])), aI cy (ad_9 1) 144 (fun _ => 0), aI cy (ad_9 2) 12 (fun _ => 0), (ad_24 0, .inr (3, [.int (nI 6), .int (nI 11), .ref (ad_24 1), .int (nI 0)])), aI cy (ad_24 1) 66 (fun _ => 0), (ad_39 0, .inr (3, [.int (nI 20), .int (nI 6), .ref (ad_39 1), .int (nI 0)])), aI cy (ad_39 1) 120 (fun _ => 0), aI cy q48 8 (fun _ => 0), aI cy q56 6 (fun _ => 0)] H := hP
  have hD : va_D A [(h, .inr (0, [.ref (ad_9 0), .ref (ad_24 0), .ref (ad_39 0), .ref q48, .ref q56, .int (nI 0), .int (nI 0), .int (nI 0), .int (nI 0), .int (nI 0), .int (nI 0)])), (ad_9 0, .inr (2, [.ref (ad_9 1), .ref (ad_9 2), .int (nI 0)])), aI cy (ad_9 1) 144 (fun _ => 0), aI cy (ad_9 2) 12 (fun _ => 0), (ad_24 0, .inr (3, [.int (nI 6), .int (nI 11), .ref (ad_24 1), .int (nI 0)])), aI cy (ad_24 1) 66 (fun _ => 0), (ad_39 0, .inr (3, [.int (nI 20), .int (nI 6), .ref (ad_39 1), .int (nI 0)])), aI cy (ad_39 1) 120 (fun _ => 0), aI cy q48 8 (fun _ => 0), aI cy q56 6 (fun _ => 0)] := hD
  exact W.widen (Nat.le_of_ble_eq_true rfl) (Nat.le_of_ble_eq_true rfl) (cn_v (fun k => match k with | 0 => h | 1 => ad_9 0 | 2 => ad_9 1 | 3 => ad_9 2 | 4 => ad_24 0 | 5 => ad_24 1 | 6 => ad_39 0 | 7 => ad_39 1 | 8 => q48 | _ => q56) rfl hP hD hS hx hb hr dX0_init_61 hlk)
