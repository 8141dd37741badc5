set_option maxHeartbeats 4000000 in
set_option maxRecDepth 100000 in
theorem c_L_append (l : Launch) (hfl : l.stackTraces = false) (g : va_G) (cy : Nat → ClassId) (out : Nat) (f0 : Nat → Int64) (x a tr s0 s1 : Nat → Nat) (pa : Nat → Nat → Nat) (sz : Nat) (bd : Nat) (q : Sc) (σ : Nat → Nat) (Hh : Nat → Nat → Nat) (n : Nat) (K : Nat → Nat → Nat) (fl : Nat → Bool) (tx : Nat → Nat) (ln : Nat) (vc : Int32) (hI : fI bd q σ Hh n K fl tx ln) : Met l yL_append (Cond.codeWith yL_append cL_append 4 (some .int) [(0, 9, 12, 13), (0, 9, 15, 15)] :: wsL_law) ({ frames := 7, cells := 1, slots := 6, locals := 103 } : Room) (va_Pc [.ref (x 0), .int vc, .ref out] (pr2 g cy ([aJ cy out 1 f0] ++ fQ cy x a tr s0 s1 pa q σ n fl tx ln) sz)) (wr_Q (fun _ : (Nat → Int64) × Sc => some (.int (nI (rkm 0 1 2 (fApp vc ln))))) (fun u => (fApp vc ln = 0 → u.1 0 = ((nI (ln + 1)) : Int32).toInt64) ∧ fI bd u.2 σ Hh n K fl (if fApp vc ln = 0 then up tx ln vc.toNatClampNeg else tx) (if fApp vc ln = 0 then ln + 1 else ln)) (fun u => [aJ cy out 1 u.1] ++ fQ cy x a tr s0 s1 pa u.2 σ n fl (if fApp vc ln = 0 then up tx ln vc.toNatClampNeg else tx) (if fApp vc ln = 0 then ln + 1 else ln)) g (va_A ([aJ cy out 1 f0] ++ fQ cy x a tr s0 s1 pa q σ n fl tx ln) sz)) 1 6 (va_A ([aJ cy out 1 f0] ++ fQ cy x a tr s0 s1 pa q σ n fl tx ln) sz) := by
  refine mt_h (cc := cL_append) (maxL := 4) (ret := some .int) (by decide +kernel) (Nat.le_of_ble_eq_true rfl) ?_
  intro pX eX s mX below meth cX ls A hx hb hr hml hown hts hlk htb hsz hAe hA hP hD hK hX hY hl
  subst hsz
  rw [← hAe]
  clear hAe
  have hl : lv_has ls 4 [(0, .ref (x 0)), (1, .int vc), (2, .ref out)] := hl
  have hS : va_S A s.heap s.heap [] := va_S.rf
  refine lv_aload_n hx hb dL_append_0 rfl (lv_at hl 2 rfl) ?_
  refine lv_iconst (v := (nI 0)) hx hb dL_append_1 (by decide) ?_
  refine lv_aload_n hx hb dL_append_2 rfl (lv_at hl 0 rfl) ?_
  refine lv_iload_n hx hb dL_append_3 rfl (lv_at hl 1 rfl) ?_
  refine tr_call (pre := [aJ cy out 1 f0]) (wc := fQ cy x a tr s0 s1 pa q σ n fl tx ln) (k := fApp vc ln) (vx_runV (As := [.int vc]) (rest := [.int (nI 0), .ref out]) ⟨hx, hb, hml, hown, hts⟩ (c_X7_append l hfl g cy x a tr s0 s1 pa s.heap.size bd q σ Hh n K fl tx ln vc hI ) ⟨cB 1 hts wd6_16 wd1_2 wd6_13 rfl rfl (by decide +kernel) ⟨Nat.le_of_ble_eq_true rfl, Nat.le_of_ble_eq_true rfl⟩, hts _ wd6_14, hts _ wd6_15⟩ (pv2S hK hP hD hS hA hX hY 5 rfl rfl) rfl rfl hl.1 rfl (lv_room (Nat.le_of_ble_eq_true rfl)) dL_append_4 ⟨Nat.le_of_ble_eq_true rfl, Nat.le_of_ble_eq_true rfl⟩) hP hD hS hA (fun _ => fQ_ad) (fun q9 H locs hq9 hP hD hS => ?_) (fun hk q8 ce H locs hce hcv hcl hP hS => ?_)
  · obtain ⟨hfx, hI9⟩ := hq9
    have hP : va_P g vwCl (aJ cy out 1 f0 :: (fQ cy x a tr s0 s1 pa q9 σ n fl (up tx ln vc.toNatClampNeg) (ln + 1))) H := hP
    have hD : va_D A (aJ cy out 1 f0 :: (fQ cy x a tr s0 s1 pa q9 σ n fl (up tx ln vc.toNatClampNeg) (ln + 1))) := hD
    show W _ _ _ _ _ _ _ _ _ _ _ _ _ _ _ (F0 mX 7 ls [.int (nI (ln + 1)), .int (nI 0), .ref out])
    refine lv_i2l (v := (nI (ln + 1)).toInt64) hx hb dL_append_7 rfl ?_
    refine va_last hx hb hK hP hD hS 0 3 rfl rfl (vp_in_nI (n := 0) (by omega) (by omega)) dL_append_8 (fun H locs hP hD hS => ?_)
    rw [nI_clamp (n := 0) (by omega)] at hP hD
    have hP : va_P g vwCl (aJ cy out 1 (vp_updL f0 0 ((nI (ln + 1)).toInt64)) :: (fQ cy x a tr s0 s1 pa q9 σ n fl (up tx ln vc.toNatClampNeg) (ln + 1))) H := hP
    have hD : va_D A (aJ cy out 1 (vp_updL f0 0 ((nI (ln + 1)).toInt64)) :: (fQ cy x a tr s0 s1 pa q9 σ n fl (up tx ln vc.toNatClampNeg) (ln + 1))) := hD
    refine lv_goto (tgt := 18) hx hb dL_append_9 (by decide) ?_
    refine lv_iconst (v := (nI 0)) hx hb dL_append_18 (by decide) ?_
    exact W.widen (Nat.le_of_ble_eq_true rfl) (Nat.le_of_ble_eq_true rfl) (wr_i ((vp_updL f0 0 ((nI (ln + 1)).toInt64)), q9) (by rw [hfx]; rfl) ⟨fun _ => by simp [vp_updL], by simp only [if_pos hfx]; exact hI9⟩ (by simp only [if_pos hfx]; exact hP) hS hx hb hr dL_append_19 hlk)
  · have hfc : fApp vc ln = 0 ∨ fApp vc ln = 2 ∨ fApp vc ln = 3 := by unfold fApp; (repeat' split) <;> simp
    rcases hfc with hj | hj | hj
    · exact absurd hj hk
    · rw [hj] at hcl
      refine vx_catch (name := exN 2) (E := exN 2) hown [] ⟨0, 9, 12, 13⟩ [⟨0, 9, 15, 15⟩] (by rw [htb]; rfl) (fun z hz => absurd hz List.not_mem_nil) rfl (by decide) (hts _ wd6_11) (va_Nw.use rfl (hY.1 2 (by decide) (by decide))) hce hcv hcl ?_
      show W _ _ _ _ _ _ _ _ _ _ _ _ _ _ _ (F0 mX 12 ls [.ref q8])
      refine lv_astore_n (lv' := [(3, .ref q8), (0, .ref (x 0)), (1, .int vc), (2, .ref out)]) hx hb dL_append_12 rfl hl (by decide) rfl (fun ls hl => ?_)
      refine lv_iconst (v := (nI 1)) hx hb dL_append_13 (by decide) ?_
      exact W.widen (Nat.le_of_ble_eq_true rfl) (Nat.le_of_ble_eq_true rfl) (wr_i (f0, q) (by rw [hj]; rfl) ⟨fun e => absurd e hk, by simp only [if_neg hk]; exact hI⟩ (by simp only [if_neg hk]; exact hP) hS hx hb hr dL_append_14 hlk)
    · rw [hj] at hcl
      refine vx_catch (name := exN 3) (E := exN 3) hown [⟨0, 9, 12, 13⟩] ⟨0, 9, 15, 15⟩ [] (by rw [htb]; rfl) (fun z hz => by rcases List.mem_cons.mp hz with rfl | hz; exact Or.inr ⟨by decide, exN 2, hts _ wd6_11, hY.2.1 3 2 (by decide) (by decide) (by decide) (by decide) (by decide)⟩; exact absurd hz List.not_mem_nil) rfl (by decide) (hts _ wd6_12) (va_Nw.use rfl (hY.1 3 (by decide) (by decide))) hce hcv hcl ?_
      show W _ _ _ _ _ _ _ _ _ _ _ _ _ _ _ (F0 mX 15 ls [.ref q8])
      refine lv_astore_n (lv' := [(3, .ref q8), (0, .ref (x 0)), (1, .int vc), (2, .ref out)]) hx hb dL_append_15 rfl hl (by decide) rfl (fun ls hl => ?_)
      refine lv_iconst (v := (nI 2)) hx hb dL_append_16 (by decide) ?_
      exact W.widen (Nat.le_of_ble_eq_true rfl) (Nat.le_of_ble_eq_true rfl) (wr_i (f0, q) (by rw [hj]; rfl) ⟨fun e => absurd e hk, by simp only [if_neg hk]; exact hI⟩ (by simp only [if_neg hk]; exact hP) hS hx hb hr dL_append_17 hlk)
set_option maxHeartbeats 4000000 in
set_option maxRecDepth 100000 in
theorem c_L_load (l : Launch) (hfl : l.stackTraces = false) (g : va_G) (cy : Nat → ClassId) (out : Nat) (f0 : Nat → Int64) (x a tr s0 s1 : Nat → Nat) (pa : Nat → Nat → Nat) (sz : Nat) (bd : Nat) (q : Sc) (σ : Nat → Nat) (Hh : Nat → Nat → Nat) (n : Nat) (K : Nat → Nat → Nat) (fl : Nat → Bool) (tx : Nat → Nat) (ln : Nat)  (hI : fI bd q σ Hh n K fl tx ln) : Met l yL_load (Cond.codeWith yL_load cL_load 3 (some .int) [(0, 8, 11, 15)] :: wsL_law) ({ frames := 7, cells := 1, slots := 6, locals := 166 } : Room) (va_Pc [.ref (x 0), .ref out] (pr2 g cy ([aJ cy out 1 f0] ++ fQ cy x a tr s0 s1 pa q σ n fl tx ln) sz)) (wr_Q (fun _ : (Nat → Int64) × Sc => some (.int (nI (rkm 0 0 1 (fLoad tx ln))))) (fun u => (fLoad tx ln = 0 → u.1 0 = ((nI ((ldA tx ln).2)) : Int32).toInt64) ∧ fI (if fLoad tx ln = 0 then 11880 else bd) u.2 (if fLoad tx ln = 0 then (ldA tx ln).1 else σ) Hh (if fLoad tx ln = 0 then 0 else n) K (if fLoad tx ln = 0 then fun _ => false else fl) tx ln) (fun u => [aJ cy out 1 u.1] ++ fQ cy x a tr s0 s1 pa u.2 (if fLoad tx ln = 0 then (ldA tx ln).1 else σ) (if fLoad tx ln = 0 then 0 else n) (if fLoad tx ln = 0 then fun _ => false else fl) tx ln) g (va_A ([aJ cy out 1 f0] ++ fQ cy x a tr s0 s1 pa q σ n fl tx ln) sz)) 1 6 (va_A ([aJ cy out 1 f0] ++ fQ cy x a tr s0 s1 pa q σ n fl tx ln) sz) := by
  refine mt_h (cc := cL_load) (maxL := 3) (ret := some .int) (by decide +kernel) (Nat.le_of_ble_eq_true rfl) ?_
  intro pX eX s mX below meth cX ls A hx hb hr hml hown hts hlk htb hsz hAe hA hP hD hK hX hY hl
  subst hsz
  rw [← hAe]
  clear hAe
  have hl : lv_has ls 3 [(0, .ref (x 0)), (1, .ref out)] := hl
  have hS : va_S A s.heap s.heap [] := va_S.rf
  refine lv_aload_n hx hb dL_load_0 rfl (lv_at hl 1 rfl) ?_
  refine lv_iconst (v := (nI 0)) hx hb dL_load_1 (by decide) ?_
  refine lv_aload_n hx hb dL_load_2 rfl (lv_at hl 0 rfl) ?_
  refine tr_callL (pre := [aJ cy out 1 f0]) (wc := fQ cy x a tr s0 s1 pa q σ n fl tx ln) (k := fLoad tx ln) (vx_runV (As := []) (rest := [.int (nI 0), .ref out]) ⟨hx, hb, hml, hown, hts⟩ (c_X7_load l hfl g cy x a tr s0 s1 pa s.heap.size bd q σ Hh n K fl tx ln  hI ) ⟨cB 0 hts wd15_22 wd1_2 wd15_19 rfl rfl (by decide +kernel) ⟨Nat.le_of_ble_eq_true rfl, Nat.le_of_ble_eq_true rfl⟩, hts _ wd15_20, hts _ wd15_21⟩ (pv2S hK hP hD hS hA hX hY 5 rfl rfl) rfl rfl hl.1 rfl (lv_room (Nat.le_of_ble_eq_true rfl)) dL_load_3 ⟨Nat.le_of_ble_eq_true rfl, Nat.le_of_ble_eq_true rfl⟩) hP hD hS hA (fun _ => fQ_ad) (fun _ => fQ_ad) (fun q9 H locs hq9 hP hD hS => ?_) (fun hk q7 hI7 q8 ce H locs hce hcv hcl hP hS => ?_)
  · obtain ⟨hfx, hI9⟩ := hq9
    have hP : va_P g vwCl (aJ cy out 1 f0 :: (fQ cy x a tr s0 s1 pa q9 ((ldA tx ln).1) 0 (fun _ => false) tx ln)) H := hP
    have hD : va_D A (aJ cy out 1 f0 :: (fQ cy x a tr s0 s1 pa q9 ((ldA tx ln).1) 0 (fun _ => false) tx ln)) := hD
    show W _ _ _ _ _ _ _ _ _ _ _ _ _ _ _ (F0 mX 6 ls [.int (nI ((ldA tx ln).2)), .int (nI 0), .ref out])
    refine lv_i2l (v := (nI ((ldA tx ln).2)).toInt64) hx hb dL_load_6 rfl ?_
    refine va_last hx hb hK hP hD hS 0 3 rfl rfl (vp_in_nI (n := 0) (by omega) (by omega)) dL_load_7 (fun H locs hP hD hS => ?_)
    rw [nI_clamp (n := 0) (by omega)] at hP hD
    have hP : va_P g vwCl (aJ cy out 1 (vp_updL f0 0 ((nI ((ldA tx ln).2)).toInt64)) :: (fQ cy x a tr s0 s1 pa q9 ((ldA tx ln).1) 0 (fun _ => false) tx ln)) H := hP
    have hD : va_D A (aJ cy out 1 (vp_updL f0 0 ((nI ((ldA tx ln).2)).toInt64)) :: (fQ cy x a tr s0 s1 pa q9 ((ldA tx ln).1) 0 (fun _ => false) tx ln)) := hD
    refine lv_goto (tgt := 14) hx hb dL_load_8 (by decide) ?_
    refine lv_iconst (v := (nI 0)) hx hb dL_load_14 (by decide) ?_
    exact W.widen (Nat.le_of_ble_eq_true rfl) (Nat.le_of_ble_eq_true rfl) (wr_i ((vp_updL f0 0 ((nI ((ldA tx ln).2)).toInt64)), q9) (by rw [hfx]; rfl) ⟨fun _ => by simp [vp_updL], by simp only [if_pos hfx]; exact hI9⟩ (by simp only [if_pos hfx]; exact hP) hS hx hb hr dL_load_15 hlk)
  · have hfc : fLoad tx ln = 0 ∨ fLoad tx ln = 3 := by unfold fLoad; (repeat' split) <;> simp
    rcases hfc with hj | hj
    · exact absurd hj hk
    · rw [hj] at hcl
      refine vx_catch (name := exN 3) (E := exN 3) hown [] ⟨0, 8, 11, 15⟩ [] (by rw [htb]; rfl) (fun z hz => absurd hz List.not_mem_nil) rfl (by decide) (hts _ wd6_12) (va_Nw.use rfl (hY.1 3 (by decide) (by decide))) hce hcv hcl ?_
      show W _ _ _ _ _ _ _ _ _ _ _ _ _ _ _ (F0 mX 11 ls [.ref q8])
      refine lv_astore_n (lv' := [(2, .ref q8), (0, .ref (x 0)), (1, .ref out)]) hx hb dL_load_11 rfl hl (by decide) rfl (fun ls hl => ?_)
      refine lv_iconst (v := (nI 1)) hx hb dL_load_12 (by decide) ?_
      exact W.widen (Nat.le_of_ble_eq_true rfl) (Nat.le_of_ble_eq_true rfl) (wr_i (f0, q7) (by rw [hj]; rfl) ⟨fun e => absurd e hk, by simp only [if_neg hk]; exact hI7⟩ (by simp only [if_neg hk]; exact hP) hS hx hb hr dL_load_13 hlk)
set_option maxHeartbeats 4000000 in
set_option maxRecDepth 100000 in
theorem c_L_about (l : Launch) (hfl : l.stackTraces = false) (g : va_G) (cy : Nat → ClassId) (out : Nat) (f0 : Nat → Int64) (x a tr s0 s1 : Nat → Nat) (pa : Nat → Nat → Nat) (sz : Nat) (bd : Nat) (q : Sc) (σ : Nat → Nat) (Hh : Nat → Nat → Nat) (n : Nat) (K : Nat → Nat → Nat) (fl : Nat → Bool) (tx : Nat → Nat) (ln : Nat) (vw : Int32) (hI : fI bd q σ Hh n K fl tx ln) : Met l yL_about (Cond.codeWith yL_about cL_about 4 (some .int) [(0, 9, 12, 13)] :: wsL_law) ({ frames := 7, cells := 1, slots := 6, locals := 140 } : Room) (va_Pc [.ref (x 0), .int vw, .ref out] (pr2 g cy ([aJ cy out 1 f0] ++ fQ cy x a tr s0 s1 pa q σ n fl tx ln) sz)) (wr_Q (fun _ : (Nat → Int64) × Sc => some (.int (nI (rkm 0 1 0 (fAbo vw))))) (fun u => (fAbo vw = 0 → u.1 0 = ((nI (nbd σ vw.toNatClampNeg)) : Int32).toInt64) ∧ fI bd u.2 σ Hh n K fl tx ln) (fun u => [aJ cy out 1 u.1] ++ fQ cy x a tr s0 s1 pa u.2 σ n fl tx ln) g (va_A ([aJ cy out 1 f0] ++ fQ cy x a tr s0 s1 pa q σ n fl tx ln) sz)) 1 6 (va_A ([aJ cy out 1 f0] ++ fQ cy x a tr s0 s1 pa q σ n fl tx ln) sz) := by
  refine mt_h (cc := cL_about) (maxL := 4) (ret := some .int) (by decide +kernel) (Nat.le_of_ble_eq_true rfl) ?_
  intro pX eX s mX below meth cX ls A hx hb hr hml hown hts hlk htb hsz hAe hA hP hD hK hX hY hl
  subst hsz
  rw [← hAe]
  clear hAe
  have hl : lv_has ls 4 [(0, .ref (x 0)), (1, .int vw), (2, .ref out)] := hl
  have hS : va_S A s.heap s.heap [] := va_S.rf
  refine lv_aload_n hx hb dL_about_0 rfl (lv_at hl 2 rfl) ?_
  refine lv_iconst (v := (nI 0)) hx hb dL_about_1 (by decide) ?_
  refine lv_aload_n hx hb dL_about_2 rfl (lv_at hl 0 rfl) ?_
  refine lv_iload_n hx hb dL_about_3 rfl (lv_at hl 1 rfl) ?_
  refine tr_call (pre := [aJ cy out 1 f0]) (wc := fQ cy x a tr s0 s1 pa q σ n fl tx ln) (k := fAbo vw) (vx_runV (As := [.int vw]) (rest := [.int (nI 0), .ref out]) ⟨hx, hb, hml, hown, hts⟩ (c_X7_about l hfl g cy x a tr s0 s1 pa s.heap.size bd q σ Hh n K fl tx ln vw hI ) ⟨cB 1 hts wd23_10 wd1_2 wd23_7 rfl rfl (by decide +kernel) ⟨Nat.le_of_ble_eq_true rfl, Nat.le_of_ble_eq_true rfl⟩, hts _ wd23_8, hts _ wd23_9⟩ (pv2S hK hP hD hS hA hX hY 5 rfl rfl) rfl rfl hl.1 rfl (lv_room (Nat.le_of_ble_eq_true rfl)) dL_about_4 ⟨Nat.le_of_ble_eq_true rfl, Nat.le_of_ble_eq_true rfl⟩) hP hD hS hA (fun _ => fQ_ad) (fun q9 H locs hq9 hP hD hS => ?_) (fun hk q8 ce H locs hce hcv hcl hP hS => ?_)
  · obtain ⟨hfx, hI9⟩ := hq9
    have hP : va_P g vwCl (aJ cy out 1 f0 :: (fQ cy x a tr s0 s1 pa q9 σ n fl tx ln)) H := hP
    have hD : va_D A (aJ cy out 1 f0 :: (fQ cy x a tr s0 s1 pa q9 σ n fl tx ln)) := hD
    show W _ _ _ _ _ _ _ _ _ _ _ _ _ _ _ (F0 mX 7 ls [.int (nI (nbd σ vw.toNatClampNeg)), .int (nI 0), .ref out])
    refine lv_i2l (v := (nI (nbd σ vw.toNatClampNeg)).toInt64) hx hb dL_about_7 rfl ?_
    refine va_last hx hb hK hP hD hS 0 3 rfl rfl (vp_in_nI (n := 0) (by omega) (by omega)) dL_about_8 (fun H locs hP hD hS => ?_)
    rw [nI_clamp (n := 0) (by omega)] at hP hD
    have hP : va_P g vwCl (aJ cy out 1 (vp_updL f0 0 ((nI (nbd σ vw.toNatClampNeg)).toInt64)) :: (fQ cy x a tr s0 s1 pa q9 σ n fl tx ln)) H := hP
    have hD : va_D A (aJ cy out 1 (vp_updL f0 0 ((nI (nbd σ vw.toNatClampNeg)).toInt64)) :: (fQ cy x a tr s0 s1 pa q9 σ n fl tx ln)) := hD
    refine lv_goto (tgt := 15) hx hb dL_about_9 (by decide) ?_
    refine lv_iconst (v := (nI 0)) hx hb dL_about_15 (by decide) ?_
    exact W.widen (Nat.le_of_ble_eq_true rfl) (Nat.le_of_ble_eq_true rfl) (wr_i ((vp_updL f0 0 ((nI (nbd σ vw.toNatClampNeg)).toInt64)), q9) (by rw [hfx]; rfl) ⟨fun _ => by simp [vp_updL], by exact hI9⟩ hP hS hx hb hr dL_about_16 hlk)
  · have hfc : fAbo vw = 0 ∨ fAbo vw = 2 := by unfold fAbo; (repeat' split) <;> simp
    rcases hfc with hj | hj
    · exact absurd hj hk
    · rw [hj] at hcl
      refine vx_catch (name := exN 2) (E := exN 2) hown [] ⟨0, 9, 12, 13⟩ [] (by rw [htb]; rfl) (fun z hz => absurd hz List.not_mem_nil) rfl (by decide) (hts _ wd6_11) (va_Nw.use rfl (hY.1 2 (by decide) (by decide))) hce hcv hcl ?_
      show W _ _ _ _ _ _ _ _ _ _ _ _ _ _ _ (F0 mX 12 ls [.ref q8])
      refine lv_astore_n (lv' := [(3, .ref q8), (0, .ref (x 0)), (1, .int vw), (2, .ref out)]) hx hb dL_about_12 rfl hl (by decide) rfl (fun ls hl => ?_)
      refine lv_iconst (v := (nI 1)) hx hb dL_about_13 (by decide) ?_
      exact W.widen (Nat.le_of_ble_eq_true rfl) (Nat.le_of_ble_eq_true rfl) (wr_i (f0, q) (by rw [hj]; rfl) ⟨fun e => absurd e hk, by exact hI⟩ hP hS hx hb hr dL_about_14 hlk)
set_option maxHeartbeats 4000000 in
set_option maxRecDepth 100000 in
theorem c_L_dogOf (l : Launch) (hfl : l.stackTraces = false) (g : va_G) (cy : Nat → ClassId) (out : Nat) (f0 : Nat → Int64) (x a tr s0 s1 : Nat → Nat) (pa : Nat → Nat → Nat) (sz : Nat) (bd : Nat) (q : Sc) (σ : Nat → Nat) (Hh : Nat → Nat → Nat) (n : Nat) (K : Nat → Nat → Nat) (fl : Nat → Bool) (tx : Nat → Nat) (ln : Nat) (vd : Int32) (vw : Int32) (hI : fI bd q σ Hh n K fl tx ln) : Met l yL_dogOf (Cond.codeWith yL_dogOf cL_dogOf 5 (some .int) [(0, 10, 13, 28), (0, 10, 17, 13)] :: wsL_law) ({ frames := 7, cells := 1, slots := 6, locals := 141 } : Room) (va_Pc [.ref (x 0), .int vd, .int vw, .ref out] (pr2 g cy ([aJ cy out 1 f0] ++ fQ cy x a tr s0 s1 pa q σ n fl tx ln) sz)) (wr_Q (fun _ : (Nat → Int64) × Sc => some (.int (nI (rkm 1 2 0 (fDog σ vd vw))))) (fun u => (fDog σ vd vw = 0 → u.1 0 = ((nI (ndg σ vd.toNatClampNeg vw.toNatClampNeg)) : Int32).toInt64) ∧ fI bd u.2 σ Hh n K fl tx ln) (fun u => [aJ cy out 1 u.1] ++ fQ cy x a tr s0 s1 pa u.2 σ n fl tx ln) g (va_A ([aJ cy out 1 f0] ++ fQ cy x a tr s0 s1 pa q σ n fl tx ln) sz)) 1 6 (va_A ([aJ cy out 1 f0] ++ fQ cy x a tr s0 s1 pa q σ n fl tx ln) sz) := by
  refine mt_h (cc := cL_dogOf) (maxL := 5) (ret := some .int) (by decide +kernel) (Nat.le_of_ble_eq_true rfl) ?_
  intro pX eX s mX below meth cX ls A hx hb hr hml hown hts hlk htb hsz hAe hA hP hD hK hX hY hl
  subst hsz
  rw [← hAe]
  clear hAe
  have hl : lv_has ls 5 [(0, .ref (x 0)), (1, .int vd), (2, .int vw), (3, .ref out)] := hl
  have hS : va_S A s.heap s.heap [] := va_S.rf
  refine lv_aload_n hx hb dL_dogOf_0 rfl (lv_at hl 3 rfl) ?_
  refine lv_iconst (v := (nI 0)) hx hb dL_dogOf_1 (by decide) ?_
  refine lv_aload_n hx hb dL_dogOf_2 rfl (lv_at hl 0 rfl) ?_
  refine lv_iload_n hx hb dL_dogOf_3 rfl (lv_at hl 1 rfl) ?_
  refine lv_iload_n hx hb dL_dogOf_4 rfl (lv_at hl 2 rfl) ?_
  refine tr_call (pre := [aJ cy out 1 f0]) (wc := fQ cy x a tr s0 s1 pa q σ n fl tx ln) (k := fDog σ vd vw) (vx_runV (As := [.int vd, .int vw]) (rest := [.int (nI 0), .ref out]) ⟨hx, hb, hml, hown, hts⟩ (c_X7_dogOf l hfl g cy x a tr s0 s1 pa s.heap.size bd q σ Hh n K fl tx ln vd vw hI ) ⟨cB 2 hts wd25_4 wd1_2 wd25_1 rfl rfl (by decide +kernel) ⟨Nat.le_of_ble_eq_true rfl, Nat.le_of_ble_eq_true rfl⟩, hts _ wd25_2, hts _ wd25_3⟩ (pv2S hK hP hD hS hA hX hY 5 rfl rfl) rfl rfl hl.1 rfl (lv_room (Nat.le_of_ble_eq_true rfl)) dL_dogOf_5 ⟨Nat.le_of_ble_eq_true rfl, Nat.le_of_ble_eq_true rfl⟩) hP hD hS hA (fun _ => fQ_ad) (fun q9 H locs hq9 hP hD hS => ?_) (fun hk q8 ce H locs hce hcv hcl hP hS => ?_)
  · obtain ⟨hfx, hI9⟩ := hq9
    have hP : va_P g vwCl (aJ cy out 1 f0 :: (fQ cy x a tr s0 s1 pa q9 σ n fl tx ln)) H := hP
    have hD : va_D A (aJ cy out 1 f0 :: (fQ cy x a tr s0 s1 pa q9 σ n fl tx ln)) := hD
    show W _ _ _ _ _ _ _ _ _ _ _ _ _ _ _ (F0 mX 8 ls [.int (nI (ndg σ vd.toNatClampNeg vw.toNatClampNeg)), .int (nI 0), .ref out])
    refine lv_i2l (v := (nI (ndg σ vd.toNatClampNeg vw.toNatClampNeg)).toInt64) hx hb dL_dogOf_8 rfl ?_
    refine va_last hx hb hK hP hD hS 0 3 rfl rfl (vp_in_nI (n := 0) (by omega) (by omega)) dL_dogOf_9 (fun H locs hP hD hS => ?_)
    rw [nI_clamp (n := 0) (by omega)] at hP hD
    have hP : va_P g vwCl (aJ cy out 1 (vp_updL f0 0 ((nI (ndg σ vd.toNatClampNeg vw.toNatClampNeg)).toInt64)) :: (fQ cy x a tr s0 s1 pa q9 σ n fl tx ln)) H := hP
    have hD : va_D A (aJ cy out 1 (vp_updL f0 0 ((nI (ndg σ vd.toNatClampNeg vw.toNatClampNeg)).toInt64)) :: (fQ cy x a tr s0 s1 pa q9 σ n fl tx ln)) := hD
    refine lv_goto (tgt := 21) hx hb dL_dogOf_10 (by decide) ?_
    refine lv_iconst (v := (nI 0)) hx hb dL_dogOf_21 (by decide) ?_
    exact W.widen (Nat.le_of_ble_eq_true rfl) (Nat.le_of_ble_eq_true rfl) (wr_i ((vp_updL f0 0 ((nI (ndg σ vd.toNatClampNeg vw.toNatClampNeg)).toInt64)), q9) (by rw [hfx]; rfl) ⟨fun _ => by simp [vp_updL], by exact hI9⟩ hP hS hx hb hr dL_dogOf_22 hlk)
  · have hfc : fDog σ vd vw = 0 ∨ fDog σ vd vw = 1 ∨ fDog σ vd vw = 2 := by unfold fDog; (repeat' split) <;> simp
    rcases hfc with hj | hj | hj
    · exact absurd hj hk
    · rw [hj] at hcl
      refine vx_catch (name := exN 1) (E := exN 1) hown [] ⟨0, 10, 13, 28⟩ [⟨0, 10, 17, 13⟩] (by rw [htb]; rfl) (fun z hz => absurd hz List.not_mem_nil) rfl (by decide) (hts _ wd25_0) (va_Nw.use rfl (hY.1 1 (by decide) (by decide))) hce hcv hcl ?_
      show W _ _ _ _ _ _ _ _ _ _ _ _ _ _ _ (F0 mX 13 ls [.ref q8])
      refine lv_astore (lv' := [(4, .ref q8), (0, .ref (x 0)), (1, .int vd), (2, .int vw), (3, .ref out)]) hx hb dL_dogOf_13 hl (by decide) rfl (fun ls hl => ?_)
      refine lv_iconst (v := (nI 1)) hx hb dL_dogOf_15 (by decide) ?_
      exact W.widen (Nat.le_of_ble_eq_true rfl) (Nat.le_of_ble_eq_true rfl) (wr_i (f0, q) (by rw [hj]; rfl) ⟨fun e => absurd e hk, by exact hI⟩ hP hS hx hb hr dL_dogOf_16 hlk)
    · rw [hj] at hcl
      refine vx_catch (name := exN 2) (E := exN 2) hown [⟨0, 10, 13, 28⟩] ⟨0, 10, 17, 13⟩ [] (by rw [htb]; rfl) (fun z hz => by rcases List.mem_cons.mp hz with rfl | hz; exact Or.inr ⟨by decide, exN 1, hts _ wd25_0, hY.2.1 2 1 (by decide) (by decide) (by decide) (by decide) (by decide)⟩; exact absurd hz List.not_mem_nil) rfl (by decide) (hts _ wd6_11) (va_Nw.use rfl (hY.1 2 (by decide) (by decide))) hce hcv hcl ?_
      show W _ _ _ _ _ _ _ _ _ _ _ _ _ _ _ (F0 mX 17 ls [.ref q8])
      refine lv_astore (lv' := [(4, .ref q8), (0, .ref (x 0)), (1, .int vd), (2, .int vw), (3, .ref out)]) hx hb dL_dogOf_17 hl (by decide) rfl (fun ls hl => ?_)
      refine lv_iconst (v := (nI 2)) hx hb dL_dogOf_19 (by decide) ?_
      exact W.widen (Nat.le_of_ble_eq_true rfl) (Nat.le_of_ble_eq_true rfl) (wr_i (f0, q) (by rw [hj]; rfl) ⟨fun e => absurd e hk, by exact hI⟩ hP hS hx hb hr dL_dogOf_20 hlk)
set_option maxHeartbeats 4000000 in
set_option maxRecDepth 100000 in
theorem c_L_sightingOf (l : Launch) (hfl : l.stackTraces = false) (g : va_G) (cy : Nat → ClassId) (out : Nat) (f0 : Nat → Int64) (x a tr s0 s1 : Nat → Nat) (pa : Nat → Nat → Nat) (sz : Nat) (bd : Nat) (q : Sc) (σ : Nat → Nat) (Hh : Nat → Nat → Nat) (n : Nat) (K : Nat → Nat → Nat) (fl : Nat → Bool) (tx : Nat → Nat) (ln : Nat) (vs : Int32) (vw : Int32) (hI : fI bd q σ Hh n K fl tx ln) : Met l yL_sightingOf (Cond.codeWith yL_sightingOf cL_sightingOf 5 (some .int) [(0, 10, 13, 28), (0, 10, 17, 13)] :: wsL_law) ({ frames := 7, cells := 1, slots := 6, locals := 121 } : Room) (va_Pc [.ref (x 0), .int vs, .int vw, .ref out] (pr2 g cy ([aJ cy out 1 f0] ++ fQ cy x a tr s0 s1 pa q σ n fl tx ln) sz)) (wr_Q (fun _ : (Nat → Int64) × Sc => some (.int (nI (rkm 1 2 0 (fSig σ vs vw))))) (fun u => (fSig σ vs vw = 0 → u.1 0 = ((nI (nsg σ vs.toNatClampNeg vw.toNatClampNeg)) : Int32).toInt64) ∧ fI bd u.2 σ Hh n K fl tx ln) (fun u => [aJ cy out 1 u.1] ++ fQ cy x a tr s0 s1 pa u.2 σ n fl tx ln) g (va_A ([aJ cy out 1 f0] ++ fQ cy x a tr s0 s1 pa q σ n fl tx ln) sz)) 1 6 (va_A ([aJ cy out 1 f0] ++ fQ cy x a tr s0 s1 pa q σ n fl tx ln) sz) := by
  refine mt_h (cc := cL_sightingOf) (maxL := 5) (ret := some .int) (by decide +kernel) (Nat.le_of_ble_eq_true rfl) ?_
  intro pX eX s mX below meth cX ls A hx hb hr hml hown hts hlk htb hsz hAe hA hP hD hK hX hY hl
  subst hsz
  rw [← hAe]
  clear hAe
  have hl : lv_has ls 5 [(0, .ref (x 0)), (1, .int vs), (2, .int vw), (3, .ref out)] := hl
  have hS : va_S A s.heap s.heap [] := va_S.rf
  refine lv_aload_n hx hb dL_sightingOf_0 rfl (lv_at hl 3 rfl) ?_
  refine lv_iconst (v := (nI 0)) hx hb dL_sightingOf_1 (by decide) ?_
  refine lv_aload_n hx hb dL_sightingOf_2 rfl (lv_at hl 0 rfl) ?_
  refine lv_iload_n hx hb dL_sightingOf_3 rfl (lv_at hl 1 rfl) ?_
  refine lv_iload_n hx hb dL_sightingOf_4 rfl (lv_at hl 2 rfl) ?_
  refine tr_call (pre := [aJ cy out 1 f0]) (wc := fQ cy x a tr s0 s1 pa q σ n fl tx ln) (k := fSig σ vs vw) (vx_runV (As := [.int vs, .int vw]) (rest := [.int (nI 0), .ref out]) ⟨hx, hb, hml, hown, hts⟩ (c_X7_sightingOf l hfl g cy x a tr s0 s1 pa s.heap.size bd q σ Hh n K fl tx ln vs vw hI ) ⟨cB 2 hts wd26_2 wd1_2 wd25_23 rfl rfl (by decide +kernel) ⟨Nat.le_of_ble_eq_true rfl, Nat.le_of_ble_eq_true rfl⟩, hts _ wd26_0, hts _ wd26_1⟩ (pv2S hK hP hD hS hA hX hY 5 rfl rfl) rfl rfl hl.1 rfl (lv_room (Nat.le_of_ble_eq_true rfl)) dL_sightingOf_5 ⟨Nat.le_of_ble_eq_true rfl, Nat.le_of_ble_eq_true rfl⟩) hP hD hS hA (fun _ => fQ_ad) (fun q9 H locs hq9 hP hD hS => ?_) (fun hk q8 ce H locs hce hcv hcl hP hS => ?_)
  · obtain ⟨hfx, hI9⟩ := hq9
    have hP : va_P g vwCl (aJ cy out 1 f0 :: (fQ cy x a tr s0 s1 pa q9 σ n fl tx ln)) H := hP
    have hD : va_D A (aJ cy out 1 f0 :: (fQ cy x a tr s0 s1 pa q9 σ n fl tx ln)) := hD
    show W _ _ _ _ _ _ _ _ _ _ _ _ _ _ _ (F0 mX 8 ls [.int (nI (nsg σ vs.toNatClampNeg vw.toNatClampNeg)), .int (nI 0), .ref out])
    refine lv_i2l (v := (nI (nsg σ vs.toNatClampNeg vw.toNatClampNeg)).toInt64) hx hb dL_sightingOf_8 rfl ?_
    refine va_last hx hb hK hP hD hS 0 3 rfl rfl (vp_in_nI (n := 0) (by omega) (by omega)) dL_sightingOf_9 (fun H locs hP hD hS => ?_)
    rw [nI_clamp (n := 0) (by omega)] at hP hD
    have hP : va_P g vwCl (aJ cy out 1 (vp_updL f0 0 ((nI (nsg σ vs.toNatClampNeg vw.toNatClampNeg)).toInt64)) :: (fQ cy x a tr s0 s1 pa q9 σ n fl tx ln)) H := hP
    have hD : va_D A (aJ cy out 1 (vp_updL f0 0 ((nI (nsg σ vs.toNatClampNeg vw.toNatClampNeg)).toInt64)) :: (fQ cy x a tr s0 s1 pa q9 σ n fl tx ln)) := hD
    refine lv_goto (tgt := 21) hx hb dL_sightingOf_10 (by decide) ?_
    refine lv_iconst (v := (nI 0)) hx hb dL_sightingOf_21 (by decide) ?_
    exact W.widen (Nat.le_of_ble_eq_true rfl) (Nat.le_of_ble_eq_true rfl) (wr_i ((vp_updL f0 0 ((nI (nsg σ vs.toNatClampNeg vw.toNatClampNeg)).toInt64)), q9) (by rw [hfx]; rfl) ⟨fun _ => by simp [vp_updL], by exact hI9⟩ hP hS hx hb hr dL_sightingOf_22 hlk)
  · have hfc : fSig σ vs vw = 0 ∨ fSig σ vs vw = 1 ∨ fSig σ vs vw = 2 := by unfold fSig; (repeat' split) <;> simp
    rcases hfc with hj | hj | hj
    · exact absurd hj hk
    · rw [hj] at hcl
      refine vx_catch (name := exN 1) (E := exN 1) hown [] ⟨0, 10, 13, 28⟩ [⟨0, 10, 17, 13⟩] (by rw [htb]; rfl) (fun z hz => absurd hz List.not_mem_nil) rfl (by decide) (hts _ wd25_0) (va_Nw.use rfl (hY.1 1 (by decide) (by decide))) hce hcv hcl ?_
      show W _ _ _ _ _ _ _ _ _ _ _ _ _ _ _ (F0 mX 13 ls [.ref q8])
      refine lv_astore (lv' := [(4, .ref q8), (0, .ref (x 0)), (1, .int vs), (2, .int vw), (3, .ref out)]) hx hb dL_sightingOf_13 hl (by decide) rfl (fun ls hl => ?_)
      refine lv_iconst (v := (nI 1)) hx hb dL_sightingOf_15 (by decide) ?_
      exact W.widen (Nat.le_of_ble_eq_true rfl) (Nat.le_of_ble_eq_true rfl) (wr_i (f0, q) (by rw [hj]; rfl) ⟨fun e => absurd e hk, by exact hI⟩ hP hS hx hb hr dL_sightingOf_16 hlk)
    · rw [hj] at hcl
      refine vx_catch (name := exN 2) (E := exN 2) hown [⟨0, 10, 13, 28⟩] ⟨0, 10, 17, 13⟩ [] (by rw [htb]; rfl) (fun z hz => by rcases List.mem_cons.mp hz with rfl | hz; exact Or.inr ⟨by decide, exN 1, hts _ wd25_0, hY.2.1 2 1 (by decide) (by decide) (by decide) (by decide) (by decide)⟩; exact absurd hz List.not_mem_nil) rfl (by decide) (hts _ wd6_11) (va_Nw.use rfl (hY.1 2 (by decide) (by decide))) hce hcv hcl ?_
      show W _ _ _ _ _ _ _ _ _ _ _ _ _ _ _ (F0 mX 17 ls [.ref q8])
      refine lv_astore (lv' := [(4, .ref q8), (0, .ref (x 0)), (1, .int vs), (2, .int vw), (3, .ref out)]) hx hb dL_sightingOf_17 hl (by decide) rfl (fun ls hl => ?_)
      refine lv_iconst (v := (nI 2)) hx hb dL_sightingOf_19 (by decide) ?_
      exact W.widen (Nat.le_of_ble_eq_true rfl) (Nat.le_of_ble_eq_true rfl) (wr_i (f0, q) (by rw [hj]; rfl) ⟨fun e => absurd e hk, by exact hI⟩ hP hS hx hb hr dL_sightingOf_20 hlk)
set_option maxHeartbeats 4000000 in
set_option maxRecDepth 100000 in
theorem c_L_purse (l : Launch) (hfl : l.stackTraces = false) (g : va_G) (cy : Nat → ClassId) (out : Nat) (f0 : Nat → Int64) (x a tr s0 s1 : Nat → Nat) (pa : Nat → Nat → Nat) (sz : Nat) (bd : Nat) (q : Sc) (σ : Nat → Nat) (Hh : Nat → Nat → Nat) (n : Nat) (K : Nat → Nat → Nat) (fl : Nat → Bool) (tx : Nat → Nat) (ln : Nat) (vf : Int32) (hI : fI bd q σ Hh n K fl tx ln) : Met l yL_purse (Cond.codeWith yL_purse cL_purse 4 (some .int) [(0, 9, 12, 28)] :: wsL_law) ({ frames := 7, cells := 1, slots := 6, locals := 103 } : Room) (va_Pc [.ref (x 0), .int vf, .ref out] (pr2 g cy ([aJ cy out 1 f0] ++ fQ cy x a tr s0 s1 pa q σ n fl tx ln) sz)) (wr_Q (fun _ : (Nat → Int64) × Sc => some (.int (nI (rkm 1 0 0 (fPur vf))))) (fun u => (fPur vf = 0 → u.1 0 = ((nI (σ (8 + vf.toNatClampNeg))) : Int32).toInt64) ∧ fI bd u.2 σ Hh n K fl tx ln) (fun u => [aJ cy out 1 u.1] ++ fQ cy x a tr s0 s1 pa u.2 σ n fl tx ln) g (va_A ([aJ cy out 1 f0] ++ fQ cy x a tr s0 s1 pa q σ n fl tx ln) sz)) 1 6 (va_A ([aJ cy out 1 f0] ++ fQ cy x a tr s0 s1 pa q σ n fl tx ln) sz) := by
  refine mt_h (cc := cL_purse) (maxL := 4) (ret := some .int) (by decide +kernel) (Nat.le_of_ble_eq_true rfl) ?_
  intro pX eX s mX below meth cX ls A hx hb hr hml hown hts hlk htb hsz hAe hA hP hD hK hX hY hl
  subst hsz
  rw [← hAe]
  clear hAe
  have hl : lv_has ls 4 [(0, .ref (x 0)), (1, .int vf), (2, .ref out)] := hl
  have hS : va_S A s.heap s.heap [] := va_S.rf
  refine lv_aload_n hx hb dL_purse_0 rfl (lv_at hl 2 rfl) ?_
  refine lv_iconst (v := (nI 0)) hx hb dL_purse_1 (by decide) ?_
  refine lv_aload_n hx hb dL_purse_2 rfl (lv_at hl 0 rfl) ?_
  refine lv_iload_n hx hb dL_purse_3 rfl (lv_at hl 1 rfl) ?_
  refine tr_call (pre := [aJ cy out 1 f0]) (wc := fQ cy x a tr s0 s1 pa q σ n fl tx ln) (k := fPur vf) (vx_runV (As := [.int vf]) (rest := [.int (nI 0), .ref out]) ⟨hx, hb, hml, hown, hts⟩ (c_X7_purse l hfl g cy x a tr s0 s1 pa s.heap.size bd q σ Hh n K fl tx ln vf hI ) ⟨cB 1 hts wd26_18 wd1_2 wd26_15 rfl rfl (by decide +kernel) ⟨Nat.le_of_ble_eq_true rfl, Nat.le_of_ble_eq_true rfl⟩, hts _ wd26_16, hts _ wd26_17⟩ (pv2S hK hP hD hS hA hX hY 5 rfl rfl) rfl rfl hl.1 rfl (lv_room (Nat.le_of_ble_eq_true rfl)) dL_purse_4 ⟨Nat.le_of_ble_eq_true rfl, Nat.le_of_ble_eq_true rfl⟩) hP hD hS hA (fun _ => fQ_ad) (fun q9 H locs hq9 hP hD hS => ?_) (fun hk q8 ce H locs hce hcv hcl hP hS => ?_)
  · obtain ⟨hfx, hI9⟩ := hq9
    have hP : va_P g vwCl (aJ cy out 1 f0 :: (fQ cy x a tr s0 s1 pa q9 σ n fl tx ln)) H := hP
    have hD : va_D A (aJ cy out 1 f0 :: (fQ cy x a tr s0 s1 pa q9 σ n fl tx ln)) := hD
    show W _ _ _ _ _ _ _ _ _ _ _ _ _ _ _ (F0 mX 7 ls [.int (nI (σ (8 + vf.toNatClampNeg))), .int (nI 0), .ref out])
    refine lv_i2l (v := (nI (σ (8 + vf.toNatClampNeg))).toInt64) hx hb dL_purse_7 rfl ?_
    refine va_last hx hb hK hP hD hS 0 3 rfl rfl (vp_in_nI (n := 0) (by omega) (by omega)) dL_purse_8 (fun H locs hP hD hS => ?_)
    rw [nI_clamp (n := 0) (by omega)] at hP hD
    have hP : va_P g vwCl (aJ cy out 1 (vp_updL f0 0 ((nI (σ (8 + vf.toNatClampNeg))).toInt64)) :: (fQ cy x a tr s0 s1 pa q9 σ n fl tx ln)) H := hP
    have hD : va_D A (aJ cy out 1 (vp_updL f0 0 ((nI (σ (8 + vf.toNatClampNeg))).toInt64)) :: (fQ cy x a tr s0 s1 pa q9 σ n fl tx ln)) := hD
    refine lv_goto (tgt := 15) hx hb dL_purse_9 (by decide) ?_
    refine lv_iconst (v := (nI 0)) hx hb dL_purse_15 (by decide) ?_
    exact W.widen (Nat.le_of_ble_eq_true rfl) (Nat.le_of_ble_eq_true rfl) (wr_i ((vp_updL f0 0 ((nI (σ (8 + vf.toNatClampNeg))).toInt64)), q9) (by rw [hfx]; rfl) ⟨fun _ => by simp [vp_updL], by exact hI9⟩ hP hS hx hb hr dL_purse_16 hlk)
  · have hfc : fPur vf = 0 ∨ fPur vf = 1 := by unfold fPur; (repeat' split) <;> simp
    rcases hfc with hj | hj
    · exact absurd hj hk
    · rw [hj] at hcl
      refine vx_catch (name := exN 1) (E := exN 1) hown [] ⟨0, 9, 12, 28⟩ [] (by rw [htb]; rfl) (fun z hz => absurd hz List.not_mem_nil) rfl (by decide) (hts _ wd25_0) (va_Nw.use rfl (hY.1 1 (by decide) (by decide))) hce hcv hcl ?_
      show W _ _ _ _ _ _ _ _ _ _ _ _ _ _ _ (F0 mX 12 ls [.ref q8])
      refine lv_astore_n (lv' := [(3, .ref q8), (0, .ref (x 0)), (1, .int vf), (2, .ref out)]) hx hb dL_purse_12 rfl hl (by decide) rfl (fun ls hl => ?_)
      refine lv_iconst (v := (nI 1)) hx hb dL_purse_13 (by decide) ?_
      exact W.widen (Nat.le_of_ble_eq_true rfl) (Nat.le_of_ble_eq_true rfl) (wr_i (f0, q) (by rw [hj]; rfl) ⟨fun e => absurd e hk, by exact hI⟩ hP hS hx hb hr dL_purse_14 hlk)
set_option maxHeartbeats 4000000 in
set_option maxRecDepth 100000 in
theorem c_L_apart (l : Launch) (hfl : l.stackTraces = false) (g : va_G) (cy : Nat → ClassId) (out : Nat) (f0 : Nat → Int64) (x a tr s0 s1 : Nat → Nat) (pa : Nat → Nat → Nat) (sz : Nat) (bd : Nat) (q : Sc) (σ : Nat → Nat) (Hh : Nat → Nat → Nat) (n : Nat) (K : Nat → Nat → Nat) (fl : Nat → Bool) (tx : Nat → Nat) (ln : Nat) (va : Int32) (vb : Int32) (vw : Int32) (hI : fI bd q σ Hh n K fl tx ln) : Met l yL_apart (Cond.codeWith yL_apart cL_apart 6 (some .int) [(0, 12, 15, 28), (0, 12, 19, 13)] :: wsL_law) ({ frames := 7, cells := 1, slots := 6, locals := 113 } : Room) (va_Pc [.ref (x 0), .int va, .int vb, .int vw, .ref out] (pr2 g cy ([aJ cy out 1 f0] ++ fQ cy x a tr s0 s1 pa q σ n fl tx ln) sz)) (wr_Q (fun _ : (Nat → Int64) × Sc => some (.int (nI (rkm 1 2 0 (fApa va vb vw))))) (fun u => (fApa va vb vw = 0 → u.1 0 = ((wv σ (12 * va.toNatClampNeg + vb.toNatClampNeg)) : Int32).toInt64) ∧ fI bd u.2 σ Hh n K fl tx ln) (fun u => [aJ cy out 1 u.1] ++ fQ cy x a tr s0 s1 pa u.2 σ n fl tx ln) g (va_A ([aJ cy out 1 f0] ++ fQ cy x a tr s0 s1 pa q σ n fl tx ln) sz)) 1 6 (va_A ([aJ cy out 1 f0] ++ fQ cy x a tr s0 s1 pa q σ n fl tx ln) sz) := by
  refine mt_h (cc := cL_apart) (maxL := 6) (ret := some .int) (by decide +kernel) (Nat.le_of_ble_eq_true rfl) ?_
  intro pX eX s mX below meth cX ls A hx hb hr hml hown hts hlk htb hsz hAe hA hP hD hK hX hY hl
  subst hsz
  rw [← hAe]
  clear hAe
  have hl : lv_has ls 6 [(0, .ref (x 0)), (1, .int va), (2, .int vb), (3, .int vw), (4, .ref out)] := hl
  have hS : va_S A s.heap s.heap [] := va_S.rf
  refine lv_aload hx hb dL_apart_0 (lv_at hl 4 rfl) ?_
  refine lv_iconst (v := (nI 0)) hx hb dL_apart_2 (by decide) ?_
  refine lv_aload_n hx hb dL_apart_3 rfl (lv_at hl 0 rfl) ?_
  refine lv_iload_n hx hb dL_apart_4 rfl (lv_at hl 1 rfl) ?_
  refine lv_iload_n hx hb dL_apart_5 rfl (lv_at hl 2 rfl) ?_
  refine lv_iload_n hx hb dL_apart_6 rfl (lv_at hl 3 rfl) ?_
  refine tr_call (pre := [aJ cy out 1 f0]) (wc := fQ cy x a tr s0 s1 pa q σ n fl tx ln) (k := fApa va vb vw) (vx_runV (As := [.int va, .int vb, .int vw]) (rest := [.int (nI 0), .ref out]) ⟨hx, hb, hml, hown, hts⟩ (c_X7_apart l hfl g cy x a tr s0 s1 pa s.heap.size bd q σ Hh n K fl tx ln va vb vw hI ) ⟨cB 3 hts wd27_11 wd1_2 wd27_8 rfl rfl (by decide +kernel) ⟨Nat.le_of_ble_eq_true rfl, Nat.le_of_ble_eq_true rfl⟩, hts _ wd27_9, hts _ wd27_10⟩ (pv2S hK hP hD hS hA hX hY 5 rfl rfl) rfl rfl hl.1 rfl (lv_room (Nat.le_of_ble_eq_true rfl)) dL_apart_7 ⟨Nat.le_of_ble_eq_true rfl, Nat.le_of_ble_eq_true rfl⟩) hP hD hS hA (fun _ => fQ_ad) (fun q9 H locs hq9 hP hD hS => ?_) (fun hk q8 ce H locs hce hcv hcl hP hS => ?_)
  · obtain ⟨hfx, hI9⟩ := hq9
    have hP : va_P g vwCl (aJ cy out 1 f0 :: (fQ cy x a tr s0 s1 pa q9 σ n fl tx ln)) H := hP
    have hD : va_D A (aJ cy out 1 f0 :: (fQ cy x a tr s0 s1 pa q9 σ n fl tx ln)) := hD
    show W _ _ _ _ _ _ _ _ _ _ _ _ _ _ _ (F0 mX 10 ls [.int (wv σ (12 * va.toNatClampNeg + vb.toNatClampNeg)), .int (nI 0), .ref out])
    refine lv_i2l (v := (wv σ (12 * va.toNatClampNeg + vb.toNatClampNeg)).toInt64) hx hb dL_apart_10 rfl ?_
    refine va_last hx hb hK hP hD hS 0 3 rfl rfl (vp_in_nI (n := 0) (by omega) (by omega)) dL_apart_11 (fun H locs hP hD hS => ?_)
    rw [nI_clamp (n := 0) (by omega)] at hP hD
    have hP : va_P g vwCl (aJ cy out 1 (vp_updL f0 0 ((wv σ (12 * va.toNatClampNeg + vb.toNatClampNeg)).toInt64)) :: (fQ cy x a tr s0 s1 pa q9 σ n fl tx ln)) H := hP
    have hD : va_D A (aJ cy out 1 (vp_updL f0 0 ((wv σ (12 * va.toNatClampNeg + vb.toNatClampNeg)).toInt64)) :: (fQ cy x a tr s0 s1 pa q9 σ n fl tx ln)) := hD
    refine lv_goto (tgt := 23) hx hb dL_apart_12 (by decide) ?_
    refine lv_iconst (v := (nI 0)) hx hb dL_apart_23 (by decide) ?_
    exact W.widen (Nat.le_of_ble_eq_true rfl) (Nat.le_of_ble_eq_true rfl) (wr_i ((vp_updL f0 0 ((wv σ (12 * va.toNatClampNeg + vb.toNatClampNeg)).toInt64)), q9) (by rw [hfx]; rfl) ⟨fun _ => by simp [vp_updL], by exact hI9⟩ hP hS hx hb hr dL_apart_24 hlk)
  · have hfc : fApa va vb vw = 0 ∨ fApa va vb vw = 1 ∨ fApa va vb vw = 2 := by unfold fApa; (repeat' split) <;> simp
    rcases hfc with hj | hj | hj
    · exact absurd hj hk
    · rw [hj] at hcl
      refine vx_catch (name := exN 1) (E := exN 1) hown [] ⟨0, 12, 15, 28⟩ [⟨0, 12, 19, 13⟩] (by rw [htb]; rfl) (fun z hz => absurd hz List.not_mem_nil) rfl (by decide) (hts _ wd25_0) (va_Nw.use rfl (hY.1 1 (by decide) (by decide))) hce hcv hcl ?_
      show W _ _ _ _ _ _ _ _ _ _ _ _ _ _ _ (F0 mX 15 ls [.ref q8])
      refine lv_astore (lv' := [(5, .ref q8), (0, .ref (x 0)), (1, .int va), (2, .int vb), (3, .int vw), (4, .ref out)]) hx hb dL_apart_15 hl (by decide) rfl (fun ls hl => ?_)
      refine lv_iconst (v := (nI 1)) hx hb dL_apart_17 (by decide) ?_
      exact W.widen (Nat.le_of_ble_eq_true rfl) (Nat.le_of_ble_eq_true rfl) (wr_i (f0, q) (by rw [hj]; rfl) ⟨fun e => absurd e hk, by exact hI⟩ hP hS hx hb hr dL_apart_18 hlk)
    · rw [hj] at hcl
      refine vx_catch (name := exN 2) (E := exN 2) hown [⟨0, 12, 15, 28⟩] ⟨0, 12, 19, 13⟩ [] (by rw [htb]; rfl) (fun z hz => by rcases List.mem_cons.mp hz with rfl | hz; exact Or.inr ⟨by decide, exN 1, hts _ wd25_0, hY.2.1 2 1 (by decide) (by decide) (by decide) (by decide) (by decide)⟩; exact absurd hz List.not_mem_nil) rfl (by decide) (hts _ wd6_11) (va_Nw.use rfl (hY.1 2 (by decide) (by decide))) hce hcv hcl ?_
      show W _ _ _ _ _ _ _ _ _ _ _ _ _ _ _ (F0 mX 19 ls [.ref q8])
      refine lv_astore (lv' := [(5, .ref q8), (0, .ref (x 0)), (1, .int va), (2, .int vb), (3, .int vw), (4, .ref out)]) hx hb dL_apart_19 hl (by decide) rfl (fun ls hl => ?_)
      refine lv_iconst (v := (nI 2)) hx hb dL_apart_21 (by decide) ?_
      exact W.widen (Nat.le_of_ble_eq_true rfl) (Nat.le_of_ble_eq_true rfl) (wr_i (f0, q) (by rw [hj]; rfl) ⟨fun e => absurd e hk, by exact hI⟩ hP hS hx hb hr dL_apart_22 hlk)
set_option maxHeartbeats 4000000 in
set_option maxRecDepth 100000 in
theorem c_L_lose (l : Launch) (hfl : l.stackTraces = false) (g : va_G) (cy : Nat → ClassId) (out : Nat) (f0 : Nat → Int64) (x a tr s0 s1 : Nat → Nat) (pa : Nat → Nat → Nat) (sz : Nat) (bd : Nat) (q : Sc) (σ : Nat → Nat) (Hh : Nat → Nat → Nat) (n : Nat) (K : Nat → Nat → Nat) (fl : Nat → Bool) (tx : Nat → Nat) (ln : Nat) (vm : Int32) (vp : Int32) (vc : Int32) (vr : Int32) (hI : fI bd q σ Hh n K fl tx ln) : Met l yL_lose (Cond.codeWith yL_lose cL_lose 7 (some .int) [(0, 14, 17, 28), (0, 14, 21, 13), (0, 14, 25, 15)] :: wsL_law) ({ frames := 8, cells := 1, slots := 6, locals := 128 } : Room) (va_Pc [.ref (x 0), .int vm, .int vp, .int vc, .int vr, .ref out] (pr2 g cy ([aJ cy out 1 f0] ++ fQ cy x a tr s0 s1 pa q σ n fl tx ln) sz)) (wr_Q (fun _ : (Nat → Int64) × Sc => some (.int (nI (rkm 1 2 3 (fLose σ vm vp vc vr))))) (fun u => (fLose σ vm vp vc vr = 0 → u.1 0 = ((nI (σ 0)) : Int32).toInt64) ∧ fI (if fLose σ vm vp vc vr = 0 then bd else bd) u.2 (if fLose σ vm vp vc vr = 0 then loseR σ vm vp vc vr else σ) (if fLose σ vm vp vc vr = 0 then hiH Hh n σ else Hh) (if fLose σ vm vp vc vr = 0 then hiN n else n) K fl tx ln) (fun u => [aJ cy out 1 u.1] ++ fQ cy x a tr s0 s1 pa u.2 (if fLose σ vm vp vc vr = 0 then loseR σ vm vp vc vr else σ) (if fLose σ vm vp vc vr = 0 then hiN n else n) fl tx ln) g (va_A ([aJ cy out 1 f0] ++ fQ cy x a tr s0 s1 pa q σ n fl tx ln) sz)) 1 6 (va_A ([aJ cy out 1 f0] ++ fQ cy x a tr s0 s1 pa q σ n fl tx ln) sz) := by
  refine mt_h (cc := cL_lose) (maxL := 7) (ret := some .int) (by decide +kernel) (Nat.le_of_ble_eq_true rfl) ?_
  intro pX eX s mX below meth cX ls A hx hb hr hml hown hts hlk htb hsz hAe hA hP hD hK hX hY hl
  subst hsz
  rw [← hAe]
  clear hAe
  have hl : lv_has ls 7 [(0, .ref (x 0)), (1, .int vm), (2, .int vp), (3, .int vc), (4, .int vr), (5, .ref out)] := hl
  have hS : va_S A s.heap s.heap [] := va_S.rf
  refine lv_aload hx hb dL_lose_0 (lv_at hl 5 rfl) ?_
  refine lv_iconst (v := (nI 0)) hx hb dL_lose_2 (by decide) ?_
  refine lv_aload_n hx hb dL_lose_3 rfl (lv_at hl 0 rfl) ?_
  refine lv_iload_n hx hb dL_lose_4 rfl (lv_at hl 1 rfl) ?_
  refine lv_iload_n hx hb dL_lose_5 rfl (lv_at hl 2 rfl) ?_
  refine lv_iload_n hx hb dL_lose_6 rfl (lv_at hl 3 rfl) ?_
  refine lv_iload hx hb dL_lose_7 (lv_at hl 4 rfl) ?_
  refine tr_call (pre := [aJ cy out 1 f0]) (wc := fQ cy x a tr s0 s1 pa q σ n fl tx ln) (k := fLose σ vm vp vc vr) (vx_runV (As := [.int vm, .int vp, .int vc, .int vr]) (rest := [.int (nI 0), .ref out]) ⟨hx, hb, hml, hown, hts⟩ (c_X7_lose l hfl g cy x a tr s0 s1 pa s.heap.size bd q σ Hh n K fl tx ln vm vp vc vr hI ) ⟨cB 4 hts wd28_23 wd1_2 wd28_20 rfl rfl (by decide +kernel) ⟨Nat.le_of_ble_eq_true rfl, Nat.le_of_ble_eq_true rfl⟩, hts _ wd28_21, hts _ wd28_22⟩ (pv2S hK hP hD hS hA hX hY 5 rfl rfl) rfl rfl hl.1 rfl (lv_room (Nat.le_of_ble_eq_true rfl)) dL_lose_9 ⟨Nat.le_of_ble_eq_true rfl, Nat.le_of_ble_eq_true rfl⟩) hP hD hS hA (fun _ => fQ_ad) (fun q9 H locs hq9 hP hD hS => ?_) (fun hk q8 ce H locs hce hcv hcl hP hS => ?_)
  · obtain ⟨hfx, hI9⟩ := hq9
    have hP : va_P g vwCl (aJ cy out 1 f0 :: (fQ cy x a tr s0 s1 pa q9 (loseR σ vm vp vc vr) (hiN n) fl tx ln)) H := hP
    have hD : va_D A (aJ cy out 1 f0 :: (fQ cy x a tr s0 s1 pa q9 (loseR σ vm vp vc vr) (hiN n) fl tx ln)) := hD
    show W _ _ _ _ _ _ _ _ _ _ _ _ _ _ _ (F0 mX 12 ls [.int (nI (σ 0)), .int (nI 0), .ref out])
    refine lv_i2l (v := (nI (σ 0)).toInt64) hx hb dL_lose_12 rfl ?_
    refine va_last hx hb hK hP hD hS 0 3 rfl rfl (vp_in_nI (n := 0) (by omega) (by omega)) dL_lose_13 (fun H locs hP hD hS => ?_)
    rw [nI_clamp (n := 0) (by omega)] at hP hD
    have hP : va_P g vwCl (aJ cy out 1 (vp_updL f0 0 ((nI (σ 0)).toInt64)) :: (fQ cy x a tr s0 s1 pa q9 (loseR σ vm vp vc vr) (hiN n) fl tx ln)) H := hP
    have hD : va_D A (aJ cy out 1 (vp_updL f0 0 ((nI (σ 0)).toInt64)) :: (fQ cy x a tr s0 s1 pa q9 (loseR σ vm vp vc vr) (hiN n) fl tx ln)) := hD
    refine lv_goto (tgt := 29) hx hb dL_lose_14 (by decide) ?_
    refine lv_iconst (v := (nI 0)) hx hb dL_lose_29 (by decide) ?_
    exact W.widen (Nat.le_of_ble_eq_true rfl) (Nat.le_of_ble_eq_true rfl) (wr_i ((vp_updL f0 0 ((nI (σ 0)).toInt64)), q9) (by rw [hfx]; rfl) ⟨fun _ => by simp [vp_updL], by simp only [if_pos hfx]; exact hI9⟩ (by simp only [if_pos hfx]; exact hP) hS hx hb hr dL_lose_30 hlk)
  · have hfc : fLose σ vm vp vc vr = 0 ∨ fLose σ vm vp vc vr = 1 ∨ fLose σ vm vp vc vr = 2 ∨ fLose σ vm vp vc vr = 3 := by unfold fLose; (repeat' split) <;> simp
    rcases hfc with hj | hj | hj | hj
    · exact absurd hj hk
    · rw [hj] at hcl
      refine vx_catch (name := exN 1) (E := exN 1) hown [] ⟨0, 14, 17, 28⟩ [⟨0, 14, 21, 13⟩, ⟨0, 14, 25, 15⟩] (by rw [htb]; rfl) (fun z hz => absurd hz List.not_mem_nil) rfl (by decide) (hts _ wd25_0) (va_Nw.use rfl (hY.1 1 (by decide) (by decide))) hce hcv hcl ?_
      show W _ _ _ _ _ _ _ _ _ _ _ _ _ _ _ (F0 mX 17 ls [.ref q8])
      refine lv_astore (lv' := [(6, .ref q8), (0, .ref (x 0)), (1, .int vm), (2, .int vp), (3, .int vc), (4, .int vr), (5, .ref out)]) hx hb dL_lose_17 hl (by decide) rfl (fun ls hl => ?_)
      refine lv_iconst (v := (nI 1)) hx hb dL_lose_19 (by decide) ?_
      exact W.widen (Nat.le_of_ble_eq_true rfl) (Nat.le_of_ble_eq_true rfl) (wr_i (f0, q) (by rw [hj]; rfl) ⟨fun e => absurd e hk, by simp only [if_neg hk]; exact hI⟩ (by simp only [if_neg hk]; exact hP) hS hx hb hr dL_lose_20 hlk)
    · rw [hj] at hcl
      refine vx_catch (name := exN 2) (E := exN 2) hown [⟨0, 14, 17, 28⟩] ⟨0, 14, 21, 13⟩ [⟨0, 14, 25, 15⟩] (by rw [htb]; rfl) (fun z hz => by rcases List.mem_cons.mp hz with rfl | hz; exact Or.inr ⟨by decide, exN 1, hts _ wd25_0, hY.2.1 2 1 (by decide) (by decide) (by decide) (by decide) (by decide)⟩; exact absurd hz List.not_mem_nil) rfl (by decide) (hts _ wd6_11) (va_Nw.use rfl (hY.1 2 (by decide) (by decide))) hce hcv hcl ?_
      show W _ _ _ _ _ _ _ _ _ _ _ _ _ _ _ (F0 mX 21 ls [.ref q8])
      refine lv_astore (lv' := [(6, .ref q8), (0, .ref (x 0)), (1, .int vm), (2, .int vp), (3, .int vc), (4, .int vr), (5, .ref out)]) hx hb dL_lose_21 hl (by decide) rfl (fun ls hl => ?_)
      refine lv_iconst (v := (nI 2)) hx hb dL_lose_23 (by decide) ?_
      exact W.widen (Nat.le_of_ble_eq_true rfl) (Nat.le_of_ble_eq_true rfl) (wr_i (f0, q) (by rw [hj]; rfl) ⟨fun e => absurd e hk, by simp only [if_neg hk]; exact hI⟩ (by simp only [if_neg hk]; exact hP) hS hx hb hr dL_lose_24 hlk)
    · rw [hj] at hcl
      refine vx_catch (name := exN 3) (E := exN 3) hown [⟨0, 14, 17, 28⟩, ⟨0, 14, 21, 13⟩] ⟨0, 14, 25, 15⟩ [] (by rw [htb]; rfl) (fun z hz => by rcases List.mem_cons.mp hz with rfl | hz; exact Or.inr ⟨by decide, exN 1, hts _ wd25_0, hY.2.1 3 1 (by decide) (by decide) (by decide) (by decide) (by decide)⟩; rcases List.mem_cons.mp hz with rfl | hz; exact Or.inr ⟨by decide, exN 2, hts _ wd6_11, hY.2.1 3 2 (by decide) (by decide) (by decide) (by decide) (by decide)⟩; exact absurd hz List.not_mem_nil) rfl (by decide) (hts _ wd6_12) (va_Nw.use rfl (hY.1 3 (by decide) (by decide))) hce hcv hcl ?_
      show W _ _ _ _ _ _ _ _ _ _ _ _ _ _ _ (F0 mX 25 ls [.ref q8])
      refine lv_astore (lv' := [(6, .ref q8), (0, .ref (x 0)), (1, .int vm), (2, .int vp), (3, .int vc), (4, .int vr), (5, .ref out)]) hx hb dL_lose_25 hl (by decide) rfl (fun ls hl => ?_)
      refine lv_iconst (v := (nI 3)) hx hb dL_lose_27 (by decide) ?_
      exact W.widen (Nat.le_of_ble_eq_true rfl) (Nat.le_of_ble_eq_true rfl) (wr_i (f0, q) (by rw [hj]; rfl) ⟨fun e => absurd e hk, by simp only [if_neg hk]; exact hI⟩ (by simp only [if_neg hk]; exact hP) hS hx hb hr dL_lose_28 hlk)
set_option maxHeartbeats 4000000 in
set_option maxRecDepth 100000 in
theorem c_L_sight (l : Launch) (hfl : l.stackTraces = false) (g : va_G) (cy : Nat → ClassId) (out : Nat) (f0 : Nat → Int64) (x a tr s0 s1 : Nat → Nat) (pa : Nat → Nat → Nat) (sz : Nat) (bd : Nat) (q : Sc) (σ : Nat → Nat) (Hh : Nat → Nat → Nat) (n : Nat) (K : Nat → Nat → Nat) (fl : Nat → Bool) (tx : Nat → Nat) (ln : Nat) (vf : Int32) (vc : Int32) (vm : Int32) (va : Int32) (ph : Bool) (hI : fI bd q σ Hh n K fl tx ln) : Met l yL_sight (Cond.codeWith yL_sight cL_sight 8 (some .int) [(0, 16, 19, 28), (0, 16, 23, 13), (0, 16, 27, 15)] :: wsL_law) ({ frames := 8, cells := 1, slots := 6, locals := 147 } : Room) (va_Pc [.ref (x 0), .int vf, .int vc, .int vm, .int va, .int (bI ph), .ref out] (pr2 g cy ([aJ cy out 1 f0] ++ fQ cy x a tr s0 s1 pa q σ n fl tx ln) sz)) (wr_Q (fun _ : (Nat → Int64) × Sc => some (.int (nI (rkm 1 2 3 (fTell σ vf vc vm va))))) (fun u => (fTell σ vf vc vm va = 0 → u.1 0 = ((nI (sightA σ vf vc vm va)) : Int32).toInt64) ∧ fI (if fTell σ vf vc vm va = 0 then bd else bd) u.2 (if fTell σ vf vc vm va = 0 then sightR σ vf vc vm va ph else σ) (if fTell σ vf vc vm va = 0 then hiH Hh n σ else Hh) (if fTell σ vf vc vm va = 0 then hiN n else n) K fl tx ln) (fun u => [aJ cy out 1 u.1] ++ fQ cy x a tr s0 s1 pa u.2 (if fTell σ vf vc vm va = 0 then sightR σ vf vc vm va ph else σ) (if fTell σ vf vc vm va = 0 then hiN n else n) fl tx ln) g (va_A ([aJ cy out 1 f0] ++ fQ cy x a tr s0 s1 pa q σ n fl tx ln) sz)) 1 6 (va_A ([aJ cy out 1 f0] ++ fQ cy x a tr s0 s1 pa q σ n fl tx ln) sz) := by
  refine mt_h (cc := cL_sight) (maxL := 8) (ret := some .int) (by decide +kernel) (Nat.le_of_ble_eq_true rfl) ?_
  intro pX eX s mX below meth cX ls A hx hb hr hml hown hts hlk htb hsz hAe hA hP hD hK hX hY hl
  subst hsz
  rw [← hAe]
  clear hAe
  have hl : lv_has ls 8 [(0, .ref (x 0)), (1, .int vf), (2, .int vc), (3, .int vm), (4, .int va), (5, .int (bI ph)), (6, .ref out)] := hl
  have hS : va_S A s.heap s.heap [] := va_S.rf
  refine lv_aload hx hb dL_sight_0 (lv_at hl 6 rfl) ?_
  refine lv_iconst (v := (nI 0)) hx hb dL_sight_2 (by decide) ?_
  refine lv_aload_n hx hb dL_sight_3 rfl (lv_at hl 0 rfl) ?_
  refine lv_iload_n hx hb dL_sight_4 rfl (lv_at hl 1 rfl) ?_
  refine lv_iload_n hx hb dL_sight_5 rfl (lv_at hl 2 rfl) ?_
  refine lv_iload_n hx hb dL_sight_6 rfl (lv_at hl 3 rfl) ?_
  refine lv_iload hx hb dL_sight_7 (lv_at hl 4 rfl) ?_
  refine lv_iload hx hb dL_sight_9 (lv_at hl 5 rfl) ?_
  refine tr_call (pre := [aJ cy out 1 f0]) (wc := fQ cy x a tr s0 s1 pa q σ n fl tx ln) (k := fTell σ vf vc vm va) (vx_runV (As := [.int vf, .int vc, .int vm, .int va, .int (bI ph)]) (rest := [.int (nI 0), .ref out]) ⟨hx, hb, hml, hown, hts⟩ (c_X7_sight l hfl g cy x a tr s0 s1 pa s.heap.size bd q σ Hh n K fl tx ln vf vc vm va ph hI ) ⟨cB 5 hts wd31_4 wd1_2 wd31_1 rfl rfl (by decide +kernel) ⟨Nat.le_of_ble_eq_true rfl, Nat.le_of_ble_eq_true rfl⟩, hts _ wd31_2, hts _ wd31_3⟩ (pv2S hK hP hD hS hA hX hY 5 rfl rfl) rfl rfl hl.1 rfl (lv_room (Nat.le_of_ble_eq_true rfl)) dL_sight_11 ⟨Nat.le_of_ble_eq_true rfl, Nat.le_of_ble_eq_true rfl⟩) hP hD hS hA (fun _ => fQ_ad) (fun q9 H locs hq9 hP hD hS => ?_) (fun hk q8 ce H locs hce hcv hcl hP hS => ?_)
  · obtain ⟨hfx, hI9⟩ := hq9
    have hP : va_P g vwCl (aJ cy out 1 f0 :: (fQ cy x a tr s0 s1 pa q9 (sightR σ vf vc vm va ph) (hiN n) fl tx ln)) H := hP
    have hD : va_D A (aJ cy out 1 f0 :: (fQ cy x a tr s0 s1 pa q9 (sightR σ vf vc vm va ph) (hiN n) fl tx ln)) := hD
    show W _ _ _ _ _ _ _ _ _ _ _ _ _ _ _ (F0 mX 14 ls [.int (nI (sightA σ vf vc vm va)), .int (nI 0), .ref out])
    refine lv_i2l (v := (nI (sightA σ vf vc vm va)).toInt64) hx hb dL_sight_14 rfl ?_
    refine va_last hx hb hK hP hD hS 0 3 rfl rfl (vp_in_nI (n := 0) (by omega) (by omega)) dL_sight_15 (fun H locs hP hD hS => ?_)
    rw [nI_clamp (n := 0) (by omega)] at hP hD
    have hP : va_P g vwCl (aJ cy out 1 (vp_updL f0 0 ((nI (sightA σ vf vc vm va)).toInt64)) :: (fQ cy x a tr s0 s1 pa q9 (sightR σ vf vc vm va ph) (hiN n) fl tx ln)) H := hP
    have hD : va_D A (aJ cy out 1 (vp_updL f0 0 ((nI (sightA σ vf vc vm va)).toInt64)) :: (fQ cy x a tr s0 s1 pa q9 (sightR σ vf vc vm va ph) (hiN n) fl tx ln)) := hD
    refine lv_goto (tgt := 31) hx hb dL_sight_16 (by decide) ?_
    refine lv_iconst (v := (nI 0)) hx hb dL_sight_31 (by decide) ?_
    exact W.widen (Nat.le_of_ble_eq_true rfl) (Nat.le_of_ble_eq_true rfl) (wr_i ((vp_updL f0 0 ((nI (sightA σ vf vc vm va)).toInt64)), q9) (by rw [hfx]; rfl) ⟨fun _ => by simp [vp_updL], by simp only [if_pos hfx]; exact hI9⟩ (by simp only [if_pos hfx]; exact hP) hS hx hb hr dL_sight_32 hlk)
  · have hfc : fTell σ vf vc vm va = 0 ∨ fTell σ vf vc vm va = 1 ∨ fTell σ vf vc vm va = 2 ∨ fTell σ vf vc vm va = 3 := by unfold fTell; (repeat' split) <;> simp
    rcases hfc with hj | hj | hj | hj
    · exact absurd hj hk
    · rw [hj] at hcl
      refine vx_catch (name := exN 1) (E := exN 1) hown [] ⟨0, 16, 19, 28⟩ [⟨0, 16, 23, 13⟩, ⟨0, 16, 27, 15⟩] (by rw [htb]; rfl) (fun z hz => absurd hz List.not_mem_nil) rfl (by decide) (hts _ wd25_0) (va_Nw.use rfl (hY.1 1 (by decide) (by decide))) hce hcv hcl ?_
      show W _ _ _ _ _ _ _ _ _ _ _ _ _ _ _ (F0 mX 19 ls [.ref q8])
      refine lv_astore (lv' := [(7, .ref q8), (0, .ref (x 0)), (1, .int vf), (2, .int vc), (3, .int vm), (4, .int va), (5, .int (bI ph)), (6, .ref out)]) hx hb dL_sight_19 hl (by decide) rfl (fun ls hl => ?_)
      refine lv_iconst (v := (nI 1)) hx hb dL_sight_21 (by decide) ?_
      exact W.widen (Nat.le_of_ble_eq_true rfl) (Nat.le_of_ble_eq_true rfl) (wr_i (f0, q) (by rw [hj]; rfl) ⟨fun e => absurd e hk, by simp only [if_neg hk]; exact hI⟩ (by simp only [if_neg hk]; exact hP) hS hx hb hr dL_sight_22 hlk)
    · rw [hj] at hcl
      refine vx_catch (name := exN 2) (E := exN 2) hown [⟨0, 16, 19, 28⟩] ⟨0, 16, 23, 13⟩ [⟨0, 16, 27, 15⟩] (by rw [htb]; rfl) (fun z hz => by rcases List.mem_cons.mp hz with rfl | hz; exact Or.inr ⟨by decide, exN 1, hts _ wd25_0, hY.2.1 2 1 (by decide) (by decide) (by decide) (by decide) (by decide)⟩; exact absurd hz List.not_mem_nil) rfl (by decide) (hts _ wd6_11) (va_Nw.use rfl (hY.1 2 (by decide) (by decide))) hce hcv hcl ?_
      show W _ _ _ _ _ _ _ _ _ _ _ _ _ _ _ (F0 mX 23 ls [.ref q8])
      refine lv_astore (lv' := [(7, .ref q8), (0, .ref (x 0)), (1, .int vf), (2, .int vc), (3, .int vm), (4, .int va), (5, .int (bI ph)), (6, .ref out)]) hx hb dL_sight_23 hl (by decide) rfl (fun ls hl => ?_)
      refine lv_iconst (v := (nI 2)) hx hb dL_sight_25 (by decide) ?_
      exact W.widen (Nat.le_of_ble_eq_true rfl) (Nat.le_of_ble_eq_true rfl) (wr_i (f0, q) (by rw [hj]; rfl) ⟨fun e => absurd e hk, by simp only [if_neg hk]; exact hI⟩ (by simp only [if_neg hk]; exact hP) hS hx hb hr dL_sight_26 hlk)
    · rw [hj] at hcl
      refine vx_catch (name := exN 3) (E := exN 3) hown [⟨0, 16, 19, 28⟩, ⟨0, 16, 23, 13⟩] ⟨0, 16, 27, 15⟩ [] (by rw [htb]; rfl) (fun z hz => by rcases List.mem_cons.mp hz with rfl | hz; exact Or.inr ⟨by decide, exN 1, hts _ wd25_0, hY.2.1 3 1 (by decide) (by decide) (by decide) (by decide) (by decide)⟩; rcases List.mem_cons.mp hz with rfl | hz; exact Or.inr ⟨by decide, exN 2, hts _ wd6_11, hY.2.1 3 2 (by decide) (by decide) (by decide) (by decide) (by decide)⟩; exact absurd hz List.not_mem_nil) rfl (by decide) (hts _ wd6_12) (va_Nw.use rfl (hY.1 3 (by decide) (by decide))) hce hcv hcl ?_
      show W _ _ _ _ _ _ _ _ _ _ _ _ _ _ _ (F0 mX 27 ls [.ref q8])
      refine lv_astore (lv' := [(7, .ref q8), (0, .ref (x 0)), (1, .int vf), (2, .int vc), (3, .int vm), (4, .int va), (5, .int (bI ph)), (6, .ref out)]) hx hb dL_sight_27 hl (by decide) rfl (fun ls hl => ?_)
      refine lv_iconst (v := (nI 3)) hx hb dL_sight_29 (by decide) ?_
      exact W.widen (Nat.le_of_ble_eq_true rfl) (Nat.le_of_ble_eq_true rfl) (wr_i (f0, q) (by rw [hj]; rfl) ⟨fun e => absurd e hk, by simp only [if_neg hk]; exact hI⟩ (by simp only [if_neg hk]; exact hP) hS hx hb hr dL_sight_30 hlk)
set_option maxHeartbeats 4000000 in
set_option maxRecDepth 100000 in
theorem c_L_find (l : Launch) (hfl : l.stackTraces = false) (g : va_G) (cy : Nat → ClassId) (out : Nat) (f0 : Nat → Int64) (x a tr s0 s1 : Nat → Nat) (pa : Nat → Nat → Nat) (sz : Nat) (bd : Nat) (q : Sc) (σ : Nat → Nat) (Hh : Nat → Nat → Nat) (n : Nat) (K : Nat → Nat → Nat) (fl : Nat → Bool) (tx : Nat → Nat) (ln : Nat) (vd : Int32) (vf : Int32) (vc : Int32) (hI : fI bd q σ Hh n K fl tx ln) : Met l yL_find (Cond.codeWith yL_find cL_find 6 (some .int) [(0, 12, 15, 28), (0, 12, 19, 15)] :: wsL_law) ({ frames := 8, cells := 1, slots := 6, locals := 141 } : Room) (va_Pc [.ref (x 0), .int vd, .int vf, .int vc, .ref out] (pr2 g cy ([aJ cy out 1 f0] ++ fQ cy x a tr s0 s1 pa q σ n fl tx ln) sz)) (wr_Q (fun _ : (Nat → Int64) × Sc => some (.int (nI (rkm 1 0 2 (fFind σ vd vf vc))))) (fun u => (fFind σ vd vf vc = 0 → u.1 0 = ((nI (findA σ vd vf vc)) : Int32).toInt64) ∧ fI (if fFind σ vd vf vc = 0 then bd else bd) u.2 (if fFind σ vd vf vc = 0 then findR σ vd vf vc else σ) (if fFind σ vd vf vc = 0 then hiH Hh n σ else Hh) (if fFind σ vd vf vc = 0 then hiN n else n) K fl tx ln) (fun u => [aJ cy out 1 u.1] ++ fQ cy x a tr s0 s1 pa u.2 (if fFind σ vd vf vc = 0 then findR σ vd vf vc else σ) (if fFind σ vd vf vc = 0 then hiN n else n) fl tx ln) g (va_A ([aJ cy out 1 f0] ++ fQ cy x a tr s0 s1 pa q σ n fl tx ln) sz)) 1 6 (va_A ([aJ cy out 1 f0] ++ fQ cy x a tr s0 s1 pa q σ n fl tx ln) sz) := by
  refine mt_h (cc := cL_find) (maxL := 6) (ret := some .int) (by decide +kernel) (Nat.le_of_ble_eq_true rfl) ?_
  intro pX eX s mX below meth cX ls A hx hb hr hml hown hts hlk htb hsz hAe hA hP hD hK hX hY hl
  subst hsz
  rw [← hAe]
  clear hAe
  have hl : lv_has ls 6 [(0, .ref (x 0)), (1, .int vd), (2, .int vf), (3, .int vc), (4, .ref out)] := hl
  have hS : va_S A s.heap s.heap [] := va_S.rf
  refine lv_aload hx hb dL_find_0 (lv_at hl 4 rfl) ?_
  refine lv_iconst (v := (nI 0)) hx hb dL_find_2 (by decide) ?_
  refine lv_aload_n hx hb dL_find_3 rfl (lv_at hl 0 rfl) ?_
  refine lv_iload_n hx hb dL_find_4 rfl (lv_at hl 1 rfl) ?_
  refine lv_iload_n hx hb dL_find_5 rfl (lv_at hl 2 rfl) ?_
  refine lv_iload_n hx hb dL_find_6 rfl (lv_at hl 3 rfl) ?_
  refine tr_call (pre := [aJ cy out 1 f0]) (wc := fQ cy x a tr s0 s1 pa q σ n fl tx ln) (k := fFind σ vd vf vc) (vx_runV (As := [.int vd, .int vf, .int vc]) (rest := [.int (nI 0), .ref out]) ⟨hx, hb, hml, hown, hts⟩ (c_X7_find l hfl g cy x a tr s0 s1 pa s.heap.size bd q σ Hh n K fl tx ln vd vf vc hI ) ⟨cB 3 hts wd31_18 wd1_2 wd31_15 rfl rfl (by decide +kernel) ⟨Nat.le_of_ble_eq_true rfl, Nat.le_of_ble_eq_true rfl⟩, hts _ wd31_16, hts _ wd31_17⟩ (pv2S hK hP hD hS hA hX hY 5 rfl rfl) rfl rfl hl.1 rfl (lv_room (Nat.le_of_ble_eq_true rfl)) dL_find_7 ⟨Nat.le_of_ble_eq_true rfl, Nat.le_of_ble_eq_true rfl⟩) hP hD hS hA (fun _ => fQ_ad) (fun q9 H locs hq9 hP hD hS => ?_) (fun hk q8 ce H locs hce hcv hcl hP hS => ?_)
  · obtain ⟨hfx, hI9⟩ := hq9
    have hP : va_P g vwCl (aJ cy out 1 f0 :: (fQ cy x a tr s0 s1 pa q9 (findR σ vd vf vc) (hiN n) fl tx ln)) H := hP
    have hD : va_D A (aJ cy out 1 f0 :: (fQ cy x a tr s0 s1 pa q9 (findR σ vd vf vc) (hiN n) fl tx ln)) := hD
    show W _ _ _ _ _ _ _ _ _ _ _ _ _ _ _ (F0 mX 10 ls [.int (nI (findA σ vd vf vc)), .int (nI 0), .ref out])
    refine lv_i2l (v := (nI (findA σ vd vf vc)).toInt64) hx hb dL_find_10 rfl ?_
    refine va_last hx hb hK hP hD hS 0 3 rfl rfl (vp_in_nI (n := 0) (by omega) (by omega)) dL_find_11 (fun H locs hP hD hS => ?_)
    rw [nI_clamp (n := 0) (by omega)] at hP hD
    have hP : va_P g vwCl (aJ cy out 1 (vp_updL f0 0 ((nI (findA σ vd vf vc)).toInt64)) :: (fQ cy x a tr s0 s1 pa q9 (findR σ vd vf vc) (hiN n) fl tx ln)) H := hP
    have hD : va_D A (aJ cy out 1 (vp_updL f0 0 ((nI (findA σ vd vf vc)).toInt64)) :: (fQ cy x a tr s0 s1 pa q9 (findR σ vd vf vc) (hiN n) fl tx ln)) := hD
    refine lv_goto (tgt := 23) hx hb dL_find_12 (by decide) ?_
    refine lv_iconst (v := (nI 0)) hx hb dL_find_23 (by decide) ?_
    exact W.widen (Nat.le_of_ble_eq_true rfl) (Nat.le_of_ble_eq_true rfl) (wr_i ((vp_updL f0 0 ((nI (findA σ vd vf vc)).toInt64)), q9) (by rw [hfx]; rfl) ⟨fun _ => by simp [vp_updL], by simp only [if_pos hfx]; exact hI9⟩ (by simp only [if_pos hfx]; exact hP) hS hx hb hr dL_find_24 hlk)
  · have hfc : fFind σ vd vf vc = 0 ∨ fFind σ vd vf vc = 1 ∨ fFind σ vd vf vc = 3 := by unfold fFind fAsk; (repeat' split) <;> simp
    rcases hfc with hj | hj | hj
    · exact absurd hj hk
    · rw [hj] at hcl
      refine vx_catch (name := exN 1) (E := exN 1) hown [] ⟨0, 12, 15, 28⟩ [⟨0, 12, 19, 15⟩] (by rw [htb]; rfl) (fun z hz => absurd hz List.not_mem_nil) rfl (by decide) (hts _ wd25_0) (va_Nw.use rfl (hY.1 1 (by decide) (by decide))) hce hcv hcl ?_
      show W _ _ _ _ _ _ _ _ _ _ _ _ _ _ _ (F0 mX 15 ls [.ref q8])
      refine lv_astore (lv' := [(5, .ref q8), (0, .ref (x 0)), (1, .int vd), (2, .int vf), (3, .int vc), (4, .ref out)]) hx hb dL_find_15 hl (by decide) rfl (fun ls hl => ?_)
      refine lv_iconst (v := (nI 1)) hx hb dL_find_17 (by decide) ?_
      exact W.widen (Nat.le_of_ble_eq_true rfl) (Nat.le_of_ble_eq_true rfl) (wr_i (f0, q) (by rw [hj]; rfl) ⟨fun e => absurd e hk, by simp only [if_neg hk]; exact hI⟩ (by simp only [if_neg hk]; exact hP) hS hx hb hr dL_find_18 hlk)
    · rw [hj] at hcl
      refine vx_catch (name := exN 3) (E := exN 3) hown [⟨0, 12, 15, 28⟩] ⟨0, 12, 19, 15⟩ [] (by rw [htb]; rfl) (fun z hz => by rcases List.mem_cons.mp hz with rfl | hz; exact Or.inr ⟨by decide, exN 1, hts _ wd25_0, hY.2.1 3 1 (by decide) (by decide) (by decide) (by decide) (by decide)⟩; exact absurd hz List.not_mem_nil) rfl (by decide) (hts _ wd6_12) (va_Nw.use rfl (hY.1 3 (by decide) (by decide))) hce hcv hcl ?_
      show W _ _ _ _ _ _ _ _ _ _ _ _ _ _ _ (F0 mX 19 ls [.ref q8])
      refine lv_astore (lv' := [(5, .ref q8), (0, .ref (x 0)), (1, .int vd), (2, .int vf), (3, .int vc), (4, .ref out)]) hx hb dL_find_19 hl (by decide) rfl (fun ls hl => ?_)
      refine lv_iconst (v := (nI 2)) hx hb dL_find_21 (by decide) ?_
      exact W.widen (Nat.le_of_ble_eq_true rfl) (Nat.le_of_ble_eq_true rfl) (wr_i (f0, q) (by rw [hj]; rfl) ⟨fun e => absurd e hk, by simp only [if_neg hk]; exact hI⟩ (by simp only [if_neg hk]; exact hP) hS hx hb hr dL_find_22 hlk)
set_option maxHeartbeats 4000000 in
set_option maxRecDepth 100000 in
theorem c_L_close (l : Launch) (hfl : l.stackTraces = false) (g : va_G) (cy : Nat → ClassId) (out : Nat) (f0 : Nat → Int64) (x a tr s0 s1 : Nat → Nat) (pa : Nat → Nat → Nat) (sz : Nat) (bd : Nat) (q : Sc) (σ : Nat → Nat) (Hh : Nat → Nat → Nat) (n : Nat) (K : Nat → Nat → Nat) (fl : Nat → Bool) (tx : Nat → Nat) (ln : Nat) (va : Int32) (vb : Int32) (on : Bool) (hI : fI bd q σ Hh n K fl tx ln) : Met l yL_close (Cond.codeWith yL_close cL_close 6 (some .int) [(0, 12, 15, 28), (0, 12, 19, 13)] :: wsL_law) ({ frames := 8, cells := 1, slots := 6, locals := 139 } : Room) (va_Pc [.ref (x 0), .int va, .int vb, .int (bI on), .ref out] (pr2 g cy ([aJ cy out 1 f0] ++ fQ cy x a tr s0 s1 pa q σ n fl tx ln) sz)) (wr_Q (fun _ : (Nat → Int64) × Sc => some (.int (nI (rkm 1 2 0 (fClose va vb))))) (fun u => (fClose va vb = 0 → u.1 0 = ((nI (closeA σ va vb on)) : Int32).toInt64) ∧ fI (if fClose va vb = 0 then bd else bd) u.2 (if fClose va vb = 0 then closeR σ va vb on else σ) (if fClose va vb = 0 then hiH Hh n σ else Hh) (if fClose va vb = 0 then hiN n else n) K fl tx ln) (fun u => [aJ cy out 1 u.1] ++ fQ cy x a tr s0 s1 pa u.2 (if fClose va vb = 0 then closeR σ va vb on else σ) (if fClose va vb = 0 then hiN n else n) fl tx ln) g (va_A ([aJ cy out 1 f0] ++ fQ cy x a tr s0 s1 pa q σ n fl tx ln) sz)) 1 6 (va_A ([aJ cy out 1 f0] ++ fQ cy x a tr s0 s1 pa q σ n fl tx ln) sz) := by
  refine mt_h (cc := cL_close) (maxL := 6) (ret := some .int) (by decide +kernel) (Nat.le_of_ble_eq_true rfl) ?_
  intro pX eX s mX below meth cX ls A hx hb hr hml hown hts hlk htb hsz hAe hA hP hD hK hX hY hl
  subst hsz
  rw [← hAe]
  clear hAe
  have hl : lv_has ls 6 [(0, .ref (x 0)), (1, .int va), (2, .int vb), (3, .int (bI on)), (4, .ref out)] := hl
  have hS : va_S A s.heap s.heap [] := va_S.rf
  refine lv_aload hx hb dL_close_0 (lv_at hl 4 rfl) ?_
  refine lv_iconst (v := (nI 0)) hx hb dL_close_2 (by decide) ?_
  refine lv_aload_n hx hb dL_close_3 rfl (lv_at hl 0 rfl) ?_
  refine lv_iload_n hx hb dL_close_4 rfl (lv_at hl 1 rfl) ?_
  refine lv_iload_n hx hb dL_close_5 rfl (lv_at hl 2 rfl) ?_
  refine lv_iload_n hx hb dL_close_6 rfl (lv_at hl 3 rfl) ?_
  refine tr_call (pre := [aJ cy out 1 f0]) (wc := fQ cy x a tr s0 s1 pa q σ n fl tx ln) (k := fClose va vb) (vx_runV (As := [.int va, .int vb, .int (bI on)]) (rest := [.int (nI 0), .ref out]) ⟨hx, hb, hml, hown, hts⟩ (c_X7_close l hfl g cy x a tr s0 s1 pa s.heap.size bd q σ Hh n K fl tx ln va vb on hI ) ⟨cB 3 hts wd32_7 wd1_2 wd32_4 rfl rfl (by decide +kernel) ⟨Nat.le_of_ble_eq_true rfl, Nat.le_of_ble_eq_true rfl⟩, hts _ wd32_5, hts _ wd32_6⟩ (pv2S hK hP hD hS hA hX hY 5 rfl rfl) rfl rfl hl.1 rfl (lv_room (Nat.le_of_ble_eq_true rfl)) dL_close_7 ⟨Nat.le_of_ble_eq_true rfl, Nat.le_of_ble_eq_true rfl⟩) hP hD hS hA (fun _ => fQ_ad) (fun q9 H locs hq9 hP hD hS => ?_) (fun hk q8 ce H locs hce hcv hcl hP hS => ?_)
  · obtain ⟨hfx, hI9⟩ := hq9
    have hP : va_P g vwCl (aJ cy out 1 f0 :: (fQ cy x a tr s0 s1 pa q9 (closeR σ va vb on) (hiN n) fl tx ln)) H := hP
    have hD : va_D A (aJ cy out 1 f0 :: (fQ cy x a tr s0 s1 pa q9 (closeR σ va vb on) (hiN n) fl tx ln)) := hD
    show W _ _ _ _ _ _ _ _ _ _ _ _ _ _ _ (F0 mX 10 ls [.int (nI (closeA σ va vb on)), .int (nI 0), .ref out])
    refine lv_i2l (v := (nI (closeA σ va vb on)).toInt64) hx hb dL_close_10 rfl ?_
    refine va_last hx hb hK hP hD hS 0 3 rfl rfl (vp_in_nI (n := 0) (by omega) (by omega)) dL_close_11 (fun H locs hP hD hS => ?_)
    rw [nI_clamp (n := 0) (by omega)] at hP hD
    have hP : va_P g vwCl (aJ cy out 1 (vp_updL f0 0 ((nI (closeA σ va vb on)).toInt64)) :: (fQ cy x a tr s0 s1 pa q9 (closeR σ va vb on) (hiN n) fl tx ln)) H := hP
    have hD : va_D A (aJ cy out 1 (vp_updL f0 0 ((nI (closeA σ va vb on)).toInt64)) :: (fQ cy x a tr s0 s1 pa q9 (closeR σ va vb on) (hiN n) fl tx ln)) := hD
    refine lv_goto (tgt := 23) hx hb dL_close_12 (by decide) ?_
    refine lv_iconst (v := (nI 0)) hx hb dL_close_23 (by decide) ?_
    exact W.widen (Nat.le_of_ble_eq_true rfl) (Nat.le_of_ble_eq_true rfl) (wr_i ((vp_updL f0 0 ((nI (closeA σ va vb on)).toInt64)), q9) (by rw [hfx]; rfl) ⟨fun _ => by simp [vp_updL], by simp only [if_pos hfx]; exact hI9⟩ (by simp only [if_pos hfx]; exact hP) hS hx hb hr dL_close_24 hlk)
  · have hfc : fClose va vb = 0 ∨ fClose va vb = 1 ∨ fClose va vb = 2 := by unfold fClose; (repeat' split) <;> simp
    rcases hfc with hj | hj | hj
    · exact absurd hj hk
    · rw [hj] at hcl
      refine vx_catch (name := exN 1) (E := exN 1) hown [] ⟨0, 12, 15, 28⟩ [⟨0, 12, 19, 13⟩] (by rw [htb]; rfl) (fun z hz => absurd hz List.not_mem_nil) rfl (by decide) (hts _ wd25_0) (va_Nw.use rfl (hY.1 1 (by decide) (by decide))) hce hcv hcl ?_
      show W _ _ _ _ _ _ _ _ _ _ _ _ _ _ _ (F0 mX 15 ls [.ref q8])
      refine lv_astore (lv' := [(5, .ref q8), (0, .ref (x 0)), (1, .int va), (2, .int vb), (3, .int (bI on)), (4, .ref out)]) hx hb dL_close_15 hl (by decide) rfl (fun ls hl => ?_)
      refine lv_iconst (v := (nI 1)) hx hb dL_close_17 (by decide) ?_
      exact W.widen (Nat.le_of_ble_eq_true rfl) (Nat.le_of_ble_eq_true rfl) (wr_i (f0, q) (by rw [hj]; rfl) ⟨fun e => absurd e hk, by simp only [if_neg hk]; exact hI⟩ (by simp only [if_neg hk]; exact hP) hS hx hb hr dL_close_18 hlk)
    · rw [hj] at hcl
      refine vx_catch (name := exN 2) (E := exN 2) hown [⟨0, 12, 15, 28⟩] ⟨0, 12, 19, 13⟩ [] (by rw [htb]; rfl) (fun z hz => by rcases List.mem_cons.mp hz with rfl | hz; exact Or.inr ⟨by decide, exN 1, hts _ wd25_0, hY.2.1 2 1 (by decide) (by decide) (by decide) (by decide) (by decide)⟩; exact absurd hz List.not_mem_nil) rfl (by decide) (hts _ wd6_11) (va_Nw.use rfl (hY.1 2 (by decide) (by decide))) hce hcv hcl ?_
      show W _ _ _ _ _ _ _ _ _ _ _ _ _ _ _ (F0 mX 19 ls [.ref q8])
      refine lv_astore (lv' := [(5, .ref q8), (0, .ref (x 0)), (1, .int va), (2, .int vb), (3, .int (bI on)), (4, .ref out)]) hx hb dL_close_19 hl (by decide) rfl (fun ls hl => ?_)
      refine lv_iconst (v := (nI 2)) hx hb dL_close_21 (by decide) ?_
      exact W.widen (Nat.le_of_ble_eq_true rfl) (Nat.le_of_ble_eq_true rfl) (wr_i (f0, q) (by rw [hj]; rfl) ⟨fun e => absurd e hk, by simp only [if_neg hk]; exact hI⟩ (by simp only [if_neg hk]; exact hP) hS hx hb hr dL_close_22 hlk)
set_option maxHeartbeats 4000000 in
set_option maxRecDepth 100000 in
theorem c_L_hours (l : Launch) (hfl : l.stackTraces = false) (g : va_G) (cy : Nat → ClassId) (out : Nat) (f0 : Nat → Int64) (x a tr s0 s1 : Nat → Nat) (pa : Nat → Nat → Nat) (sz : Nat) (bd : Nat) (q : Sc) (σ : Nat → Nat) (Hh : Nat → Nat → Nat) (n : Nat) (K : Nat → Nat → Nat) (fl : Nat → Bool) (tx : Nat → Nat) (ln : Nat) (vn : Int32) (hI : fI bd q σ Hh n K fl tx ln) (hbd : bd + 99 ≤ 100000) : Met l yL_hours (Cond.codeWith yL_hours cL_hours 4 (some .int) [(0, 9, 12, 13)] :: wsL_law) ({ frames := 8, cells := 1, slots := 6, locals := 125 } : Room) (va_Pc [.ref (x 0), .int vn, .ref out] (pr2 g cy ([aJ cy out 1 f0] ++ fQ cy x a tr s0 s1 pa q σ n fl tx ln) sz)) (wr_Q (fun _ : (Nat → Int64) × Sc => some (.int (nI (rkm 0 1 0 (fPass vn))))) (fun u => (fPass vn = 0 → u.1 0 = ((nI (hoursA σ vn)) : Int32).toInt64) ∧ fI (if fPass vn = 0 then bd + 99 else bd) u.2 (if fPass vn = 0 then hoursR σ vn else σ) (if fPass vn = 0 then hiH Hh n σ else Hh) (if fPass vn = 0 then hiN n else n) K fl tx ln) (fun u => [aJ cy out 1 u.1] ++ fQ cy x a tr s0 s1 pa u.2 (if fPass vn = 0 then hoursR σ vn else σ) (if fPass vn = 0 then hiN n else n) fl tx ln) g (va_A ([aJ cy out 1 f0] ++ fQ cy x a tr s0 s1 pa q σ n fl tx ln) sz)) 1 6 (va_A ([aJ cy out 1 f0] ++ fQ cy x a tr s0 s1 pa q σ n fl tx ln) sz) := by
  refine mt_h (cc := cL_hours) (maxL := 4) (ret := some .int) (by decide +kernel) (Nat.le_of_ble_eq_true rfl) ?_
  intro pX eX s mX below meth cX ls A hx hb hr hml hown hts hlk htb hsz hAe hA hP hD hK hX hY hl
  subst hsz
  rw [← hAe]
  clear hAe
  have hl : lv_has ls 4 [(0, .ref (x 0)), (1, .int vn), (2, .ref out)] := hl
  have hS : va_S A s.heap s.heap [] := va_S.rf
  refine lv_aload_n hx hb dL_hours_0 rfl (lv_at hl 2 rfl) ?_
  refine lv_iconst (v := (nI 0)) hx hb dL_hours_1 (by decide) ?_
  refine lv_aload_n hx hb dL_hours_2 rfl (lv_at hl 0 rfl) ?_
  refine lv_iload_n hx hb dL_hours_3 rfl (lv_at hl 1 rfl) ?_
  refine tr_call (pre := [aJ cy out 1 f0]) (wc := fQ cy x a tr s0 s1 pa q σ n fl tx ln) (k := fPass vn) (vx_runV (As := [.int vn]) (rest := [.int (nI 0), .ref out]) ⟨hx, hb, hml, hown, hts⟩ (c_X7_hours l hfl g cy x a tr s0 s1 pa s.heap.size bd q σ Hh n K fl tx ln vn hI hbd) ⟨cB 1 hts wd32_20 wd1_2 wd32_17 rfl rfl (by decide +kernel) ⟨Nat.le_of_ble_eq_true rfl, Nat.le_of_ble_eq_true rfl⟩, hts _ wd32_18, hts _ wd32_19⟩ (pv2S hK hP hD hS hA hX hY 5 rfl rfl) rfl rfl hl.1 rfl (lv_room (Nat.le_of_ble_eq_true rfl)) dL_hours_4 ⟨Nat.le_of_ble_eq_true rfl, Nat.le_of_ble_eq_true rfl⟩) hP hD hS hA (fun _ => fQ_ad) (fun q9 H locs hq9 hP hD hS => ?_) (fun hk q8 ce H locs hce hcv hcl hP hS => ?_)
  · obtain ⟨hfx, hI9⟩ := hq9
    have hP : va_P g vwCl (aJ cy out 1 f0 :: (fQ cy x a tr s0 s1 pa q9 (hoursR σ vn) (hiN n) fl tx ln)) H := hP
    have hD : va_D A (aJ cy out 1 f0 :: (fQ cy x a tr s0 s1 pa q9 (hoursR σ vn) (hiN n) fl tx ln)) := hD
    show W _ _ _ _ _ _ _ _ _ _ _ _ _ _ _ (F0 mX 7 ls [.int (nI (hoursA σ vn)), .int (nI 0), .ref out])
    refine lv_i2l (v := (nI (hoursA σ vn)).toInt64) hx hb dL_hours_7 rfl ?_
    refine va_last hx hb hK hP hD hS 0 3 rfl rfl (vp_in_nI (n := 0) (by omega) (by omega)) dL_hours_8 (fun H locs hP hD hS => ?_)
    rw [nI_clamp (n := 0) (by omega)] at hP hD
    have hP : va_P g vwCl (aJ cy out 1 (vp_updL f0 0 ((nI (hoursA σ vn)).toInt64)) :: (fQ cy x a tr s0 s1 pa q9 (hoursR σ vn) (hiN n) fl tx ln)) H := hP
    have hD : va_D A (aJ cy out 1 (vp_updL f0 0 ((nI (hoursA σ vn)).toInt64)) :: (fQ cy x a tr s0 s1 pa q9 (hoursR σ vn) (hiN n) fl tx ln)) := hD
    refine lv_goto (tgt := 15) hx hb dL_hours_9 (by decide) ?_
    refine lv_iconst (v := (nI 0)) hx hb dL_hours_15 (by decide) ?_
    exact W.widen (Nat.le_of_ble_eq_true rfl) (Nat.le_of_ble_eq_true rfl) (wr_i ((vp_updL f0 0 ((nI (hoursA σ vn)).toInt64)), q9) (by rw [hfx]; rfl) ⟨fun _ => by simp [vp_updL], by simp only [if_pos hfx]; exact hI9⟩ (by simp only [if_pos hfx]; exact hP) hS hx hb hr dL_hours_16 hlk)
  · have hfc : fPass vn = 0 ∨ fPass vn = 2 := by unfold fPass; (repeat' split) <;> simp
    rcases hfc with hj | hj
    · exact absurd hj hk
    · rw [hj] at hcl
      refine vx_catch (name := exN 2) (E := exN 2) hown [] ⟨0, 9, 12, 13⟩ [] (by rw [htb]; rfl) (fun z hz => absurd hz List.not_mem_nil) rfl (by decide) (hts _ wd6_11) (va_Nw.use rfl (hY.1 2 (by decide) (by decide))) hce hcv hcl ?_
      show W _ _ _ _ _ _ _ _ _ _ _ _ _ _ _ (F0 mX 12 ls [.ref q8])
      refine lv_astore_n (lv' := [(3, .ref q8), (0, .ref (x 0)), (1, .int vn), (2, .ref out)]) hx hb dL_hours_12 rfl hl (by decide) rfl (fun ls hl => ?_)
      refine lv_iconst (v := (nI 1)) hx hb dL_hours_13 (by decide) ?_
      exact W.widen (Nat.le_of_ble_eq_true rfl) (Nat.le_of_ble_eq_true rfl) (wr_i (f0, q) (by rw [hj]; rfl) ⟨fun e => absurd e hk, by simp only [if_neg hk]; exact hI⟩ (by simp only [if_neg hk]; exact hP) hS hx hb hr dL_hours_14 hlk)
set_option maxHeartbeats 4000000 in
set_option maxRecDepth 100000 in
theorem c_L_set (l : Launch) (hfl : l.stackTraces = false) (g : va_G) (cy : Nat → ClassId) (out : Nat) (f0 : Nat → Int64) (x a tr s0 s1 : Nat → Nat) (pa : Nat → Nat → Nat) (sz : Nat) (bd : Nat) (q : Sc) (σ : Nat → Nat) (Hh : Nat → Nat → Nat) (n : Nat) (K : Nat → Nat → Nat) (fl : Nat → Bool) (tx : Nat → Nat) (ln : Nat) (vw : Int32) (vv : Int32) (hI : fI bd q σ Hh n K fl tx ln) : Met l yL_set (Cond.codeWith yL_set cL_set 5 (some .int) [(0, 10, 13, 13)] :: wsL_law) ({ frames := 8, cells := 1, slots := 6, locals := 126 } : Room) (va_Pc [.ref (x 0), .int vw, .int vv, .ref out] (pr2 g cy ([aJ cy out 1 f0] ++ fQ cy x a tr s0 s1 pa q σ n fl tx ln) sz)) (wr_Q (fun _ : (Nat → Int64) × Sc => some (.int (nI (rkm 0 1 0 (fSet vw vv))))) (fun u => (fSet vw vv = 0 → u.1 0 = ((nI (setA σ vw vv)) : Int32).toInt64) ∧ fI (if fSet vw vv = 0 then bd else bd) u.2 (if fSet vw vv = 0 then setR σ vw vv else σ) (if fSet vw vv = 0 then hiH Hh n σ else Hh) (if fSet vw vv = 0 then hiN n else n) K fl tx ln) (fun u => [aJ cy out 1 u.1] ++ fQ cy x a tr s0 s1 pa u.2 (if fSet vw vv = 0 then setR σ vw vv else σ) (if fSet vw vv = 0 then hiN n else n) fl tx ln) g (va_A ([aJ cy out 1 f0] ++ fQ cy x a tr s0 s1 pa q σ n fl tx ln) sz)) 1 6 (va_A ([aJ cy out 1 f0] ++ fQ cy x a tr s0 s1 pa q σ n fl tx ln) sz) := by
  refine mt_h (cc := cL_set) (maxL := 5) (ret := some .int) (by decide +kernel) (Nat.le_of_ble_eq_true rfl) ?_
  intro pX eX s mX below meth cX ls A hx hb hr hml hown hts hlk htb hsz hAe hA hP hD hK hX hY hl
  subst hsz
  rw [← hAe]
  clear hAe
  have hl : lv_has ls 5 [(0, .ref (x 0)), (1, .int vw), (2, .int vv), (3, .ref out)] := hl
  have hS : va_S A s.heap s.heap [] := va_S.rf
  refine lv_aload_n hx hb dL_set_0 rfl (lv_at hl 3 rfl) ?_
  refine lv_iconst (v := (nI 0)) hx hb dL_set_1 (by decide) ?_
  refine lv_aload_n hx hb dL_set_2 rfl (lv_at hl 0 rfl) ?_
  refine lv_iload_n hx hb dL_set_3 rfl (lv_at hl 1 rfl) ?_
  refine lv_iload_n hx hb dL_set_4 rfl (lv_at hl 2 rfl) ?_
  refine tr_call (pre := [aJ cy out 1 f0]) (wc := fQ cy x a tr s0 s1 pa q σ n fl tx ln) (k := fSet vw vv) (vx_runV (As := [.int vw, .int vv]) (rest := [.int (nI 0), .ref out]) ⟨hx, hb, hml, hown, hts⟩ (c_X7_set l hfl g cy x a tr s0 s1 pa s.heap.size bd q σ Hh n K fl tx ln vw vv hI ) ⟨cB 2 hts wd33_9 wd1_2 wd33_6 rfl rfl (by decide +kernel) ⟨Nat.le_of_ble_eq_true rfl, Nat.le_of_ble_eq_true rfl⟩, hts _ wd33_7, hts _ wd33_8⟩ (pv2S hK hP hD hS hA hX hY 5 rfl rfl) rfl rfl hl.1 rfl (lv_room (Nat.le_of_ble_eq_true rfl)) dL_set_5 ⟨Nat.le_of_ble_eq_true rfl, Nat.le_of_ble_eq_true rfl⟩) hP hD hS hA (fun _ => fQ_ad) (fun q9 H locs hq9 hP hD hS => ?_) (fun hk q8 ce H locs hce hcv hcl hP hS => ?_)
  · obtain ⟨hfx, hI9⟩ := hq9
    have hP : va_P g vwCl (aJ cy out 1 f0 :: (fQ cy x a tr s0 s1 pa q9 (setR σ vw vv) (hiN n) fl tx ln)) H := hP
    have hD : va_D A (aJ cy out 1 f0 :: (fQ cy x a tr s0 s1 pa q9 (setR σ vw vv) (hiN n) fl tx ln)) := hD
    show W _ _ _ _ _ _ _ _ _ _ _ _ _ _ _ (F0 mX 8 ls [.int (nI (setA σ vw vv)), .int (nI 0), .ref out])
    refine lv_i2l (v := (nI (setA σ vw vv)).toInt64) hx hb dL_set_8 rfl ?_
    refine va_last hx hb hK hP hD hS 0 3 rfl rfl (vp_in_nI (n := 0) (by omega) (by omega)) dL_set_9 (fun H locs hP hD hS => ?_)
    rw [nI_clamp (n := 0) (by omega)] at hP hD
    have hP : va_P g vwCl (aJ cy out 1 (vp_updL f0 0 ((nI (setA σ vw vv)).toInt64)) :: (fQ cy x a tr s0 s1 pa q9 (setR σ vw vv) (hiN n) fl tx ln)) H := hP
    have hD : va_D A (aJ cy out 1 (vp_updL f0 0 ((nI (setA σ vw vv)).toInt64)) :: (fQ cy x a tr s0 s1 pa q9 (setR σ vw vv) (hiN n) fl tx ln)) := hD
    refine lv_goto (tgt := 17) hx hb dL_set_10 (by decide) ?_
    refine lv_iconst (v := (nI 0)) hx hb dL_set_17 (by decide) ?_
    exact W.widen (Nat.le_of_ble_eq_true rfl) (Nat.le_of_ble_eq_true rfl) (wr_i ((vp_updL f0 0 ((nI (setA σ vw vv)).toInt64)), q9) (by rw [hfx]; rfl) ⟨fun _ => by simp [vp_updL], by simp only [if_pos hfx]; exact hI9⟩ (by simp only [if_pos hfx]; exact hP) hS hx hb hr dL_set_18 hlk)
  · have hfc : fSet vw vv = 0 ∨ fSet vw vv = 2 := by unfold fSet; (repeat' split) <;> simp
    rcases hfc with hj | hj
    · exact absurd hj hk
    · rw [hj] at hcl
      refine vx_catch (name := exN 2) (E := exN 2) hown [] ⟨0, 10, 13, 13⟩ [] (by rw [htb]; rfl) (fun z hz => absurd hz List.not_mem_nil) rfl (by decide) (hts _ wd6_11) (va_Nw.use rfl (hY.1 2 (by decide) (by decide))) hce hcv hcl ?_
      show W _ _ _ _ _ _ _ _ _ _ _ _ _ _ _ (F0 mX 13 ls [.ref q8])
      refine lv_astore (lv' := [(4, .ref q8), (0, .ref (x 0)), (1, .int vw), (2, .int vv), (3, .ref out)]) hx hb dL_set_13 hl (by decide) rfl (fun ls hl => ?_)
      refine lv_iconst (v := (nI 1)) hx hb dL_set_15 (by decide) ?_
      exact W.widen (Nat.le_of_ble_eq_true rfl) (Nat.le_of_ble_eq_true rfl) (wr_i (f0, q) (by rw [hj]; rfl) ⟨fun e => absurd e hk, by simp only [if_neg hk]; exact hI⟩ (by simp only [if_neg hk]; exact hP) hS hx hb hr dL_set_16 hlk)
set_option maxHeartbeats 4000000 in
set_option maxRecDepth 100000 in
theorem c_L_undo (l : Launch) (hfl : l.stackTraces = false) (g : va_G) (cy : Nat → ClassId) (out : Nat) (f0 : Nat → Int64) (x a tr s0 s1 : Nat → Nat) (pa : Nat → Nat → Nat) (sz : Nat) (bd : Nat) (q : Sc) (σ : Nat → Nat) (Hh : Nat → Nat → Nat) (n : Nat) (K : Nat → Nat → Nat) (fl : Nat → Bool) (tx : Nat → Nat) (ln : Nat)  (hI : fI bd q σ Hh n K fl tx ln) : Met l yL_undo (Cond.codeWith yL_undo cL_undo 3 (some .int) [(0, 8, 11, 15)] :: wsL_law) ({ frames := 7, cells := 1, slots := 6, locals := 124 } : Room) (va_Pc [.ref (x 0), .ref out] (pr2 g cy ([aJ cy out 1 f0] ++ fQ cy x a tr s0 s1 pa q σ n fl tx ln) sz)) (wr_Q (fun _ : (Nat → Int64) × Sc => some (.int (nI (rkm 0 0 1 (fUnd n))))) (fun u => (fUnd n = 0 → u.1 0 = ((nI (n - 1)) : Int32).toInt64) ∧ fI bd u.2 (if fUnd n = 0 then Hh (n - 1) else σ) Hh (if fUnd n = 0 then n - 1 else n) K fl tx ln) (fun u => [aJ cy out 1 u.1] ++ fQ cy x a tr s0 s1 pa u.2 (if fUnd n = 0 then Hh (n - 1) else σ) (if fUnd n = 0 then n - 1 else n) fl tx ln) g (va_A ([aJ cy out 1 f0] ++ fQ cy x a tr s0 s1 pa q σ n fl tx ln) sz)) 1 6 (va_A ([aJ cy out 1 f0] ++ fQ cy x a tr s0 s1 pa q σ n fl tx ln) sz) := by
  refine mt_h (cc := cL_undo) (maxL := 3) (ret := some .int) (by decide +kernel) (Nat.le_of_ble_eq_true rfl) ?_
  intro pX eX s mX below meth cX ls A hx hb hr hml hown hts hlk htb hsz hAe hA hP hD hK hX hY hl
  subst hsz
  rw [← hAe]
  clear hAe
  have hl : lv_has ls 3 [(0, .ref (x 0)), (1, .ref out)] := hl
  have hS : va_S A s.heap s.heap [] := va_S.rf
  refine lv_aload_n hx hb dL_undo_0 rfl (lv_at hl 1 rfl) ?_
  refine lv_iconst (v := (nI 0)) hx hb dL_undo_1 (by decide) ?_
  refine lv_aload_n hx hb dL_undo_2 rfl (lv_at hl 0 rfl) ?_
  refine tr_call (pre := [aJ cy out 1 f0]) (wc := fQ cy x a tr s0 s1 pa q σ n fl tx ln) (k := fUnd n) (vx_runV (As := []) (rest := [.int (nI 0), .ref out]) ⟨hx, hb, hml, hown, hts⟩ (c_X7_undo l hfl g cy x a tr s0 s1 pa s.heap.size bd q σ Hh n K fl tx ln  hI ) ⟨cB 0 hts wd34_12 wd1_2 wd34_9 rfl rfl (by decide +kernel) ⟨Nat.le_of_ble_eq_true rfl, Nat.le_of_ble_eq_true rfl⟩, hts _ wd34_10, hts _ wd34_11⟩ (pv2S hK hP hD hS hA hX hY 5 rfl rfl) rfl rfl hl.1 rfl (lv_room (Nat.le_of_ble_eq_true rfl)) dL_undo_3 ⟨Nat.le_of_ble_eq_true rfl, Nat.le_of_ble_eq_true rfl⟩) hP hD hS hA (fun _ => fQ_ad) (fun q9 H locs hq9 hP hD hS => ?_) (fun hk q8 ce H locs hce hcv hcl hP hS => ?_)
  · obtain ⟨hfx, hI9⟩ := hq9
    have hP : va_P g vwCl (aJ cy out 1 f0 :: (fQ cy x a tr s0 s1 pa q9 (Hh (n - 1)) (n - 1) fl tx ln)) H := hP
    have hD : va_D A (aJ cy out 1 f0 :: (fQ cy x a tr s0 s1 pa q9 (Hh (n - 1)) (n - 1) fl tx ln)) := hD
    show W _ _ _ _ _ _ _ _ _ _ _ _ _ _ _ (F0 mX 6 ls [.int (nI (n - 1)), .int (nI 0), .ref out])
    refine lv_i2l (v := (nI (n - 1)).toInt64) hx hb dL_undo_6 rfl ?_
    refine va_last hx hb hK hP hD hS 0 3 rfl rfl (vp_in_nI (n := 0) (by omega) (by omega)) dL_undo_7 (fun H locs hP hD hS => ?_)
    rw [nI_clamp (n := 0) (by omega)] at hP hD
    have hP : va_P g vwCl (aJ cy out 1 (vp_updL f0 0 ((nI (n - 1)).toInt64)) :: (fQ cy x a tr s0 s1 pa q9 (Hh (n - 1)) (n - 1) fl tx ln)) H := hP
    have hD : va_D A (aJ cy out 1 (vp_updL f0 0 ((nI (n - 1)).toInt64)) :: (fQ cy x a tr s0 s1 pa q9 (Hh (n - 1)) (n - 1) fl tx ln)) := hD
    refine lv_goto (tgt := 14) hx hb dL_undo_8 (by decide) ?_
    refine lv_iconst (v := (nI 0)) hx hb dL_undo_14 (by decide) ?_
    exact W.widen (Nat.le_of_ble_eq_true rfl) (Nat.le_of_ble_eq_true rfl) (wr_i ((vp_updL f0 0 ((nI (n - 1)).toInt64)), q9) (by rw [hfx]; rfl) ⟨fun _ => by simp [vp_updL], by simp only [if_pos hfx]; exact hI9⟩ (by simp only [if_pos hfx]; exact hP) hS hx hb hr dL_undo_15 hlk)
  · have hfc : fUnd n = 0 ∨ fUnd n = 3 := by unfold fUnd; (repeat' split) <;> simp
    rcases hfc with hj | hj
    · exact absurd hj hk
    · rw [hj] at hcl
      refine vx_catch (name := exN 3) (E := exN 3) hown [] ⟨0, 8, 11, 15⟩ [] (by rw [htb]; rfl) (fun z hz => absurd hz List.not_mem_nil) rfl (by decide) (hts _ wd6_12) (va_Nw.use rfl (hY.1 3 (by decide) (by decide))) hce hcv hcl ?_
      show W _ _ _ _ _ _ _ _ _ _ _ _ _ _ _ (F0 mX 11 ls [.ref q8])
      refine lv_astore_n (lv' := [(2, .ref q8), (0, .ref (x 0)), (1, .ref out)]) hx hb dL_undo_11 rfl hl (by decide) rfl (fun ls hl => ?_)
      refine lv_iconst (v := (nI 1)) hx hb dL_undo_12 (by decide) ?_
      exact W.widen (Nat.le_of_ble_eq_true rfl) (Nat.le_of_ble_eq_true rfl) (wr_i (f0, q) (by rw [hj]; rfl) ⟨fun e => absurd e hk, by simp only [if_neg hk]; exact hI⟩ (by simp only [if_neg hk]; exact hP) hS hx hb hr dL_undo_13 hlk)
set_option maxHeartbeats 4000000 in
set_option maxRecDepth 100000 in
theorem c_L_canBe (l : Launch) (hfl : l.stackTraces = false) (g : va_G) (cy : Nat → ClassId) (out : Nat) (f0 : Nat → Int64) (x a tr s0 s1 : Nat → Nat) (pa : Nat → Nat → Nat) (sz : Nat) (bd : Nat) (q : Sc) (σ : Nat → Nat) (Hh : Nat → Nat → Nat) (n : Nat) (K : Nat → Nat → Nat) (fl : Nat → Bool) (tx : Nat → Nat) (ln : Nat) (vd : Int32) (hI : fI bd q σ Hh n K fl tx ln) : Met l yL_canBe (Cond.codeWith yL_canBe cL_canBe 4 (some .int) [(0, 9, 12, 28), (0, 9, 15, 15)] :: wsL_law) ({ frames := 8, cells := 1, slots := 6, locals := 142 } : Room) (va_Pc [.ref (x 0), .int vd, .ref out] (pr2 g cy ([aJ cy out 1 f0] ++ fQ cy x a tr s0 s1 pa q σ n fl tx ln) sz)) (wr_Q (fun _ : (Nat → Int64) × Sc => some (.int (nI (rkm 1 0 2 (fAsk σ vd))))) (fun u => (fAsk σ vd = 0 → u.1 0 = ((nI (mk (cbe σ vd.toNatClampNeg) 12)) : Int32).toInt64) ∧ fI bd u.2 σ Hh n K fl tx ln) (fun u => [aJ cy out 1 u.1] ++ fQ cy x a tr s0 s1 pa u.2 σ n fl tx ln) g (va_A ([aJ cy out 1 f0] ++ fQ cy x a tr s0 s1 pa q σ n fl tx ln) sz)) 1 6 (va_A ([aJ cy out 1 f0] ++ fQ cy x a tr s0 s1 pa q σ n fl tx ln) sz) := by
  refine mt_h (cc := cL_canBe) (maxL := 4) (ret := some .int) (by decide +kernel) (Nat.le_of_ble_eq_true rfl) ?_
  intro pX eX s mX below meth cX ls A hx hb hr hml hown hts hlk htb hsz hAe hA hP hD hK hX hY hl
  subst hsz
  rw [← hAe]
  clear hAe
  have hl : lv_has ls 4 [(0, .ref (x 0)), (1, .int vd), (2, .ref out)] := hl
  have hS : va_S A s.heap s.heap [] := va_S.rf
  refine lv_aload_n hx hb dL_canBe_0 rfl (lv_at hl 2 rfl) ?_
  refine lv_iconst (v := (nI 0)) hx hb dL_canBe_1 (by decide) ?_
  refine lv_aload_n hx hb dL_canBe_2 rfl (lv_at hl 0 rfl) ?_
  refine lv_iload_n hx hb dL_canBe_3 rfl (lv_at hl 1 rfl) ?_
  refine tr_call (pre := [aJ cy out 1 f0]) (wc := fQ cy x a tr s0 s1 pa q σ n fl tx ln) (k := fAsk σ vd) (vx_runV (As := [.int vd]) (rest := [.int (nI 0), .ref out]) ⟨hx, hb, hml, hown, hts⟩ (c_X7_canBe l hfl g cy x a tr s0 s1 pa s.heap.size bd q σ Hh n K fl tx ln vd hI ) ⟨cB 1 hts wd35_7 wd1_2 wd35_4 rfl rfl (by decide +kernel) ⟨Nat.le_of_ble_eq_true rfl, Nat.le_of_ble_eq_true rfl⟩, hts _ wd35_5, hts _ wd35_6⟩ (pv2S hK hP hD hS hA hX hY 5 rfl rfl) rfl rfl hl.1 rfl (lv_room (Nat.le_of_ble_eq_true rfl)) dL_canBe_4 ⟨Nat.le_of_ble_eq_true rfl, Nat.le_of_ble_eq_true rfl⟩) hP hD hS hA (fun _ => fQ_ad) (fun q9 H locs hq9 hP hD hS => ?_) (fun hk q8 ce H locs hce hcv hcl hP hS => ?_)
  · obtain ⟨hfx, hI9⟩ := hq9
    have hP : va_P g vwCl (aJ cy out 1 f0 :: (fQ cy x a tr s0 s1 pa q9 σ n fl tx ln)) H := hP
    have hD : va_D A (aJ cy out 1 f0 :: (fQ cy x a tr s0 s1 pa q9 σ n fl tx ln)) := hD
    show W _ _ _ _ _ _ _ _ _ _ _ _ _ _ _ (F0 mX 7 ls [.int (nI (mk (cbe σ vd.toNatClampNeg) 12)), .int (nI 0), .ref out])
    refine lv_i2l (v := (nI (mk (cbe σ vd.toNatClampNeg) 12)).toInt64) hx hb dL_canBe_7 rfl ?_
    refine va_last hx hb hK hP hD hS 0 3 rfl rfl (vp_in_nI (n := 0) (by omega) (by omega)) dL_canBe_8 (fun H locs hP hD hS => ?_)
    rw [nI_clamp (n := 0) (by omega)] at hP hD
    have hP : va_P g vwCl (aJ cy out 1 (vp_updL f0 0 ((nI (mk (cbe σ vd.toNatClampNeg) 12)).toInt64)) :: (fQ cy x a tr s0 s1 pa q9 σ n fl tx ln)) H := hP
    have hD : va_D A (aJ cy out 1 (vp_updL f0 0 ((nI (mk (cbe σ vd.toNatClampNeg) 12)).toInt64)) :: (fQ cy x a tr s0 s1 pa q9 σ n fl tx ln)) := hD
    refine lv_goto (tgt := 18) hx hb dL_canBe_9 (by decide) ?_
    refine lv_iconst (v := (nI 0)) hx hb dL_canBe_18 (by decide) ?_
    exact W.widen (Nat.le_of_ble_eq_true rfl) (Nat.le_of_ble_eq_true rfl) (wr_i ((vp_updL f0 0 ((nI (mk (cbe σ vd.toNatClampNeg) 12)).toInt64)), q9) (by rw [hfx]; rfl) ⟨fun _ => by simp [vp_updL], by exact hI9⟩ hP hS hx hb hr dL_canBe_19 hlk)
  · have hfc : fAsk σ vd = 0 ∨ fAsk σ vd = 1 ∨ fAsk σ vd = 3 := by unfold fAsk; (repeat' split) <;> simp
    rcases hfc with hj | hj | hj
    · exact absurd hj hk
    · rw [hj] at hcl
      refine vx_catch (name := exN 1) (E := exN 1) hown [] ⟨0, 9, 12, 28⟩ [⟨0, 9, 15, 15⟩] (by rw [htb]; rfl) (fun z hz => absurd hz List.not_mem_nil) rfl (by decide) (hts _ wd25_0) (va_Nw.use rfl (hY.1 1 (by decide) (by decide))) hce hcv hcl ?_
      show W _ _ _ _ _ _ _ _ _ _ _ _ _ _ _ (F0 mX 12 ls [.ref q8])
      refine lv_astore_n (lv' := [(3, .ref q8), (0, .ref (x 0)), (1, .int vd), (2, .ref out)]) hx hb dL_canBe_12 rfl hl (by decide) rfl (fun ls hl => ?_)
      refine lv_iconst (v := (nI 1)) hx hb dL_canBe_13 (by decide) ?_
      exact W.widen (Nat.le_of_ble_eq_true rfl) (Nat.le_of_ble_eq_true rfl) (wr_i (f0, q) (by rw [hj]; rfl) ⟨fun e => absurd e hk, by exact hI⟩ hP hS hx hb hr dL_canBe_14 hlk)
    · rw [hj] at hcl
      refine vx_catch (name := exN 3) (E := exN 3) hown [⟨0, 9, 12, 28⟩] ⟨0, 9, 15, 15⟩ [] (by rw [htb]; rfl) (fun z hz => by rcases List.mem_cons.mp hz with rfl | hz; exact Or.inr ⟨by decide, exN 1, hts _ wd25_0, hY.2.1 3 1 (by decide) (by decide) (by decide) (by decide) (by decide)⟩; exact absurd hz List.not_mem_nil) rfl (by decide) (hts _ wd6_12) (va_Nw.use rfl (hY.1 3 (by decide) (by decide))) hce hcv hcl ?_
      show W _ _ _ _ _ _ _ _ _ _ _ _ _ _ _ (F0 mX 15 ls [.ref q8])
      refine lv_astore_n (lv' := [(3, .ref q8), (0, .ref (x 0)), (1, .int vd), (2, .ref out)]) hx hb dL_canBe_15 rfl hl (by decide) rfl (fun ls hl => ?_)
      refine lv_iconst (v := (nI 2)) hx hb dL_canBe_16 (by decide) ?_
      exact W.widen (Nat.le_of_ble_eq_true rfl) (Nat.le_of_ble_eq_true rfl) (wr_i (f0, q) (by rw [hj]; rfl) ⟨fun e => absurd e hk, by exact hI⟩ hP hS hx hb hr dL_canBe_17 hlk)
set_option maxHeartbeats 4000000 in
set_option maxRecDepth 100000 in
theorem c_L_meant (l : Launch) (hfl : l.stackTraces = false) (g : va_G) (cy : Nat → ClassId) (out : Nat) (f0 : Nat → Int64) (x a tr s0 s1 : Nat → Nat) (pa : Nat → Nat → Nat) (sz : Nat) (bd : Nat) (q : Sc) (σ : Nat → Nat) (Hh : Nat → Nat → Nat) (n : Nat) (K : Nat → Nat → Nat) (fl : Nat → Bool) (tx : Nat → Nat) (ln : Nat) (vm : Int32) (hI : fI bd q σ Hh n K fl tx ln) : Met l yL_meant (Cond.codeWith yL_meant cL_meant 4 (some .int) [(0, 9, 12, 13)] :: wsL_law) ({ frames := 7, cells := 1, slots := 6, locals := 116 } : Room) (va_Pc [.ref (x 0), .int vm, .ref out] (pr2 g cy ([aJ cy out 1 f0] ++ fQ cy x a tr s0 s1 pa q σ n fl tx ln) sz)) (wr_Q (fun _ : (Nat → Int64) × Sc => some (.int (nI (rkm 0 1 0 (fMea vm))))) (fun u => (fMea vm = 0 → u.1 0 = ((nI (mea σ vm.toNatClampNeg (σ 2))) : Int32).toInt64) ∧ fI bd u.2 σ Hh n K fl tx ln) (fun u => [aJ cy out 1 u.1] ++ fQ cy x a tr s0 s1 pa u.2 σ n fl tx ln) g (va_A ([aJ cy out 1 f0] ++ fQ cy x a tr s0 s1 pa q σ n fl tx ln) sz)) 1 6 (va_A ([aJ cy out 1 f0] ++ fQ cy x a tr s0 s1 pa q σ n fl tx ln) sz) := by
  refine mt_h (cc := cL_meant) (maxL := 4) (ret := some .int) (by decide +kernel) (Nat.le_of_ble_eq_true rfl) ?_
  intro pX eX s mX below meth cX ls A hx hb hr hml hown hts hlk htb hsz hAe hA hP hD hK hX hY hl
  subst hsz
  rw [← hAe]
  clear hAe
  have hl : lv_has ls 4 [(0, .ref (x 0)), (1, .int vm), (2, .ref out)] := hl
  have hS : va_S A s.heap s.heap [] := va_S.rf
  refine lv_aload_n hx hb dL_meant_0 rfl (lv_at hl 2 rfl) ?_
  refine lv_iconst (v := (nI 0)) hx hb dL_meant_1 (by decide) ?_
  refine lv_aload_n hx hb dL_meant_2 rfl (lv_at hl 0 rfl) ?_
  refine lv_iload_n hx hb dL_meant_3 rfl (lv_at hl 1 rfl) ?_
  refine tr_call (pre := [aJ cy out 1 f0]) (wc := fQ cy x a tr s0 s1 pa q σ n fl tx ln) (k := fMea vm) (vx_runV (As := [.int vm]) (rest := [.int (nI 0), .ref out]) ⟨hx, hb, hml, hown, hts⟩ (c_X7_meant l hfl g cy x a tr s0 s1 pa s.heap.size bd q σ Hh n K fl tx ln vm hI ) ⟨cB 1 hts wd37_5 wd1_2 wd37_2 rfl rfl (by decide +kernel) ⟨Nat.le_of_ble_eq_true rfl, Nat.le_of_ble_eq_true rfl⟩, hts _ wd37_3, hts _ wd37_4⟩ (pv2S hK hP hD hS hA hX hY 5 rfl rfl) rfl rfl hl.1 rfl (lv_room (Nat.le_of_ble_eq_true rfl)) dL_meant_4 ⟨Nat.le_of_ble_eq_true rfl, Nat.le_of_ble_eq_true rfl⟩) hP hD hS hA (fun _ => fQ_ad) (fun q9 H locs hq9 hP hD hS => ?_) (fun hk q8 ce H locs hce hcv hcl hP hS => ?_)
  · obtain ⟨hfx, hI9⟩ := hq9
    have hP : va_P g vwCl (aJ cy out 1 f0 :: (fQ cy x a tr s0 s1 pa q9 σ n fl tx ln)) H := hP
    have hD : va_D A (aJ cy out 1 f0 :: (fQ cy x a tr s0 s1 pa q9 σ n fl tx ln)) := hD
    show W _ _ _ _ _ _ _ _ _ _ _ _ _ _ _ (F0 mX 7 ls [.int (nI (mea σ vm.toNatClampNeg (σ 2))), .int (nI 0), .ref out])
    refine lv_i2l (v := (nI (mea σ vm.toNatClampNeg (σ 2))).toInt64) hx hb dL_meant_7 rfl ?_
    refine va_last hx hb hK hP hD hS 0 3 rfl rfl (vp_in_nI (n := 0) (by omega) (by omega)) dL_meant_8 (fun H locs hP hD hS => ?_)
    rw [nI_clamp (n := 0) (by omega)] at hP hD
    have hP : va_P g vwCl (aJ cy out 1 (vp_updL f0 0 ((nI (mea σ vm.toNatClampNeg (σ 2))).toInt64)) :: (fQ cy x a tr s0 s1 pa q9 σ n fl tx ln)) H := hP
    have hD : va_D A (aJ cy out 1 (vp_updL f0 0 ((nI (mea σ vm.toNatClampNeg (σ 2))).toInt64)) :: (fQ cy x a tr s0 s1 pa q9 σ n fl tx ln)) := hD
    refine lv_goto (tgt := 15) hx hb dL_meant_9 (by decide) ?_
    refine lv_iconst (v := (nI 0)) hx hb dL_meant_15 (by decide) ?_
    exact W.widen (Nat.le_of_ble_eq_true rfl) (Nat.le_of_ble_eq_true rfl) (wr_i ((vp_updL f0 0 ((nI (mea σ vm.toNatClampNeg (σ 2))).toInt64)), q9) (by rw [hfx]; rfl) ⟨fun _ => by simp [vp_updL], by exact hI9⟩ hP hS hx hb hr dL_meant_16 hlk)
  · have hfc : fMea vm = 0 ∨ fMea vm = 2 := by unfold fMea; (repeat' split) <;> simp
    rcases hfc with hj | hj
    · exact absurd hj hk
    · rw [hj] at hcl
      refine vx_catch (name := exN 2) (E := exN 2) hown [] ⟨0, 9, 12, 13⟩ [] (by rw [htb]; rfl) (fun z hz => absurd hz List.not_mem_nil) rfl (by decide) (hts _ wd6_11) (va_Nw.use rfl (hY.1 2 (by decide) (by decide))) hce hcv hcl ?_
      show W _ _ _ _ _ _ _ _ _ _ _ _ _ _ _ (F0 mX 12 ls [.ref q8])
      refine lv_astore_n (lv' := [(3, .ref q8), (0, .ref (x 0)), (1, .int vm), (2, .ref out)]) hx hb dL_meant_12 rfl hl (by decide) rfl (fun ls hl => ?_)
      refine lv_iconst (v := (nI 1)) hx hb dL_meant_13 (by decide) ?_
      exact W.widen (Nat.le_of_ble_eq_true rfl) (Nat.le_of_ble_eq_true rfl) (wr_i (f0, q) (by rw [hj]; rfl) ⟨fun e => absurd e hk, by exact hI⟩ hP hS hx hb hr dL_meant_14 hlk)
set_option maxHeartbeats 4000000 in
set_option maxRecDepth 100000 in
theorem c_L_ifFound (l : Launch) (hfl : l.stackTraces = false) (g : va_G) (cy : Nat → ClassId) (out : Nat) (f0 : Nat → Int64) (x a tr s0 s1 : Nat → Nat) (pa : Nat → Nat → Nat) (sz : Nat) (bd : Nat) (q : Sc) (σ : Nat → Nat) (Hh : Nat → Nat → Nat) (n : Nat) (K : Nat → Nat → Nat) (fl : Nat → Bool) (tx : Nat → Nat) (ln : Nat) (vd : Int32) (vf : Int32) (vc : Int32) (vo : Int32) (hI : fI bd q σ Hh n K fl tx ln) : Met l yL_ifFound (Cond.codeWith yL_ifFound cL_ifFound 7 (some .int) [(0, 14, 17, 28), (0, 14, 21, 15)] :: wsL_law) ({ frames := 8, cells := 1, slots := 6, locals := 145 } : Room) (va_Pc [.ref (x 0), .int vd, .int vf, .int vc, .int vo, .ref out] (pr2 g cy ([aJ cy out 1 f0] ++ fQ cy x a tr s0 s1 pa q σ n fl tx ln) sz)) (wr_Q (fun _ : (Nat → Int64) × Sc => some (.int (nI (rkm 1 0 2 (fIff σ vd vf vc vo))))) (fun u => (fIff σ vd vf vc vo = 0 → u.1 0 = ((nI (shr σ vd.toNatClampNeg vf.toNatClampNeg vc.toNatClampNeg vo.toNatClampNeg)) : Int32).toInt64) ∧ fI bd u.2 σ Hh n K fl tx ln) (fun u => [aJ cy out 1 u.1] ++ fQ cy x a tr s0 s1 pa u.2 σ n fl tx ln) g (va_A ([aJ cy out 1 f0] ++ fQ cy x a tr s0 s1 pa q σ n fl tx ln) sz)) 1 6 (va_A ([aJ cy out 1 f0] ++ fQ cy x a tr s0 s1 pa q σ n fl tx ln) sz) := by
  refine mt_h (cc := cL_ifFound) (maxL := 7) (ret := some .int) (by decide +kernel) (Nat.le_of_ble_eq_true rfl) ?_
  intro pX eX s mX below meth cX ls A hx hb hr hml hown hts hlk htb hsz hAe hA hP hD hK hX hY hl
  subst hsz
  rw [← hAe]
  clear hAe
  have hl : lv_has ls 7 [(0, .ref (x 0)), (1, .int vd), (2, .int vf), (3, .int vc), (4, .int vo), (5, .ref out)] := hl
  have hS : va_S A s.heap s.heap [] := va_S.rf
  refine lv_aload hx hb dL_ifFound_0 (lv_at hl 5 rfl) ?_
  refine lv_iconst (v := (nI 0)) hx hb dL_ifFound_2 (by decide) ?_
  refine lv_aload_n hx hb dL_ifFound_3 rfl (lv_at hl 0 rfl) ?_
  refine lv_iload_n hx hb dL_ifFound_4 rfl (lv_at hl 1 rfl) ?_
  refine lv_iload_n hx hb dL_ifFound_5 rfl (lv_at hl 2 rfl) ?_
  refine lv_iload_n hx hb dL_ifFound_6 rfl (lv_at hl 3 rfl) ?_
  refine lv_iload hx hb dL_ifFound_7 (lv_at hl 4 rfl) ?_
  refine tr_call (pre := [aJ cy out 1 f0]) (wc := fQ cy x a tr s0 s1 pa q σ n fl tx ln) (k := fIff σ vd vf vc vo) (vx_runV (As := [.int vd, .int vf, .int vc, .int vo]) (rest := [.int (nI 0), .ref out]) ⟨hx, hb, hml, hown, hts⟩ (c_X7_ifFound l hfl g cy x a tr s0 s1 pa s.heap.size bd q σ Hh n K fl tx ln vd vf vc vo hI ) ⟨cB 4 hts wd37_17 wd1_2 wd37_14 rfl rfl (by decide +kernel) ⟨Nat.le_of_ble_eq_true rfl, Nat.le_of_ble_eq_true rfl⟩, hts _ wd37_15, hts _ wd37_16⟩ (pv2S hK hP hD hS hA hX hY 5 rfl rfl) rfl rfl hl.1 rfl (lv_room (Nat.le_of_ble_eq_true rfl)) dL_ifFound_9 ⟨Nat.le_of_ble_eq_true rfl, Nat.le_of_ble_eq_true rfl⟩) hP hD hS hA (fun _ => fQ_ad) (fun q9 H locs hq9 hP hD hS => ?_) (fun hk q8 ce H locs hce hcv hcl hP hS => ?_)
  · obtain ⟨hfx, hI9⟩ := hq9
    have hP : va_P g vwCl (aJ cy out 1 f0 :: (fQ cy x a tr s0 s1 pa q9 σ n fl tx ln)) H := hP
    have hD : va_D A (aJ cy out 1 f0 :: (fQ cy x a tr s0 s1 pa q9 σ n fl tx ln)) := hD
    show W _ _ _ _ _ _ _ _ _ _ _ _ _ _ _ (F0 mX 12 ls [.int (nI (shr σ vd.toNatClampNeg vf.toNatClampNeg vc.toNatClampNeg vo.toNatClampNeg)), .int (nI 0), .ref out])
    refine lv_i2l (v := (nI (shr σ vd.toNatClampNeg vf.toNatClampNeg vc.toNatClampNeg vo.toNatClampNeg)).toInt64) hx hb dL_ifFound_12 rfl ?_
    refine va_last hx hb hK hP hD hS 0 3 rfl rfl (vp_in_nI (n := 0) (by omega) (by omega)) dL_ifFound_13 (fun H locs hP hD hS => ?_)
    rw [nI_clamp (n := 0) (by omega)] at hP hD
    have hP : va_P g vwCl (aJ cy out 1 (vp_updL f0 0 ((nI (shr σ vd.toNatClampNeg vf.toNatClampNeg vc.toNatClampNeg vo.toNatClampNeg)).toInt64)) :: (fQ cy x a tr s0 s1 pa q9 σ n fl tx ln)) H := hP
    have hD : va_D A (aJ cy out 1 (vp_updL f0 0 ((nI (shr σ vd.toNatClampNeg vf.toNatClampNeg vc.toNatClampNeg vo.toNatClampNeg)).toInt64)) :: (fQ cy x a tr s0 s1 pa q9 σ n fl tx ln)) := hD
    refine lv_goto (tgt := 25) hx hb dL_ifFound_14 (by decide) ?_
    refine lv_iconst (v := (nI 0)) hx hb dL_ifFound_25 (by decide) ?_
    exact W.widen (Nat.le_of_ble_eq_true rfl) (Nat.le_of_ble_eq_true rfl) (wr_i ((vp_updL f0 0 ((nI (shr σ vd.toNatClampNeg vf.toNatClampNeg vc.toNatClampNeg vo.toNatClampNeg)).toInt64)), q9) (by rw [hfx]; rfl) ⟨fun _ => by simp [vp_updL], by exact hI9⟩ hP hS hx hb hr dL_ifFound_26 hlk)
  · have hfc : fIff σ vd vf vc vo = 0 ∨ fIff σ vd vf vc vo = 1 ∨ fIff σ vd vf vc vo = 3 := by unfold fIff fFind fAsk; (repeat' split) <;> simp
    rcases hfc with hj | hj | hj
    · exact absurd hj hk
    · rw [hj] at hcl
      refine vx_catch (name := exN 1) (E := exN 1) hown [] ⟨0, 14, 17, 28⟩ [⟨0, 14, 21, 15⟩] (by rw [htb]; rfl) (fun z hz => absurd hz List.not_mem_nil) rfl (by decide) (hts _ wd25_0) (va_Nw.use rfl (hY.1 1 (by decide) (by decide))) hce hcv hcl ?_
      show W _ _ _ _ _ _ _ _ _ _ _ _ _ _ _ (F0 mX 17 ls [.ref q8])
      refine lv_astore (lv' := [(6, .ref q8), (0, .ref (x 0)), (1, .int vd), (2, .int vf), (3, .int vc), (4, .int vo), (5, .ref out)]) hx hb dL_ifFound_17 hl (by decide) rfl (fun ls hl => ?_)
      refine lv_iconst (v := (nI 1)) hx hb dL_ifFound_19 (by decide) ?_
      exact W.widen (Nat.le_of_ble_eq_true rfl) (Nat.le_of_ble_eq_true rfl) (wr_i (f0, q) (by rw [hj]; rfl) ⟨fun e => absurd e hk, by exact hI⟩ hP hS hx hb hr dL_ifFound_20 hlk)
    · rw [hj] at hcl
      refine vx_catch (name := exN 3) (E := exN 3) hown [⟨0, 14, 17, 28⟩] ⟨0, 14, 21, 15⟩ [] (by rw [htb]; rfl) (fun z hz => by rcases List.mem_cons.mp hz with rfl | hz; exact Or.inr ⟨by decide, exN 1, hts _ wd25_0, hY.2.1 3 1 (by decide) (by decide) (by decide) (by decide) (by decide)⟩; exact absurd hz List.not_mem_nil) rfl (by decide) (hts _ wd6_12) (va_Nw.use rfl (hY.1 3 (by decide) (by decide))) hce hcv hcl ?_
      show W _ _ _ _ _ _ _ _ _ _ _ _ _ _ _ (F0 mX 21 ls [.ref q8])
      refine lv_astore (lv' := [(6, .ref q8), (0, .ref (x 0)), (1, .int vd), (2, .int vf), (3, .int vc), (4, .int vo), (5, .ref out)]) hx hb dL_ifFound_21 hl (by decide) rfl (fun ls hl => ?_)
      refine lv_iconst (v := (nI 2)) hx hb dL_ifFound_23 (by decide) ?_
      exact W.widen (Nat.le_of_ble_eq_true rfl) (Nat.le_of_ble_eq_true rfl) (wr_i (f0, q) (by rw [hj]; rfl) ⟨fun e => absurd e hk, by exact hI⟩ hP hS hx hb hr dL_ifFound_24 hlk)
set_option maxHeartbeats 4000000 in
set_option maxRecDepth 100000 in
theorem c_L_runScript (l : Launch) (hfl : l.stackTraces = false) (g : va_G) (cy : Nat → ClassId) (out : Nat) (f0 : Nat → Int64) (x a tr s0 s1 : Nat → Nat) (pa : Nat → Nat → Nat) (sz : Nat) (bd : Nat) (q : Sc) (σ : Nat → Nat) (Hh : Nat → Nat → Nat) (n : Nat) (K : Nat → Nat → Nat) (fl : Nat → Bool) (tx : Nat → Nat) (ln : Nat) (vn : Int32) (sc : Int64) (hI : fI bd q σ Hh n K fl tx ln) (hbd : bd + 297 ≤ 100000) : Met l yL_runScript (Cond.codeWith yL_runScript cL_runScript 6 (some .int) [(0, 11, 14, 13)] :: wsL_law) ({ frames := 7, cells := 1, slots := 6, locals := 177 } : Room) (va_Pc [.ref (x 0), .int vn, .long sc, .ref out] (pr2 g cy ([aJ cy out 1 f0] ++ fQ cy x a tr s0 s1 pa q σ n fl tx ln) sz)) (wr_Q (fun _ : (Nat → Int64) × Sc => some (.int (nI (rkm 0 1 0 (fRun vn sc))))) (fun u => (fRun vn sc = 0 → u.1 0 = ((nI (rnI sc vn.toNatClampNeg vn.toNatClampNeg σ)) : Int32).toInt64) ∧ fI bd u.2 σ Hh n K fl tx ln) (fun u => [aJ cy out 1 u.1] ++ fQ cy x a tr s0 s1 pa u.2 σ n fl tx ln) g (va_A ([aJ cy out 1 f0] ++ fQ cy x a tr s0 s1 pa q σ n fl tx ln) sz)) 1 6 (va_A ([aJ cy out 1 f0] ++ fQ cy x a tr s0 s1 pa q σ n fl tx ln) sz) := by
  refine mt_h (cc := cL_runScript) (maxL := 6) (ret := some .int) (by decide +kernel) (Nat.le_of_ble_eq_true rfl) ?_
  intro pX eX s mX below meth cX ls A hx hb hr hml hown hts hlk htb hsz hAe hA hP hD hK hX hY hl
  subst hsz
  rw [← hAe]
  clear hAe
  have hl : lv_has ls 6 [(0, .ref (x 0)), (1, .int vn), (2, .long sc), (4, .ref out)] := hl
  have hS : va_S A s.heap s.heap [] := va_S.rf
  refine lv_aload hx hb dL_runScript_0 (lv_at hl 3 rfl) ?_
  refine lv_iconst (v := (nI 0)) hx hb dL_runScript_2 (by decide) ?_
  refine lv_aload_n hx hb dL_runScript_3 rfl (lv_at hl 0 rfl) ?_
  refine lv_iload_n hx hb dL_runScript_4 rfl (lv_at hl 1 rfl) ?_
  refine lv_lload_n hx hb dL_runScript_5 rfl (lv_at hl 2 rfl) ?_
  refine tr_call (pre := [aJ cy out 1 f0]) (wc := fQ cy x a tr s0 s1 pa q σ n fl tx ln) (k := fRun vn sc) (vx_runV (As := [.int vn, .long sc]) (rest := [.int (nI 0), .ref out]) ⟨hx, hb, hml, hown, hts⟩ (c_X7_runScript l hfl g cy x a tr s0 s1 pa s.heap.size bd q σ Hh n K fl tx ln vn sc hI hbd) ⟨cB 2 hts wd38_8 wd1_2 wd38_5 rfl rfl (by decide +kernel) ⟨Nat.le_of_ble_eq_true rfl, Nat.le_of_ble_eq_true rfl⟩, hts _ wd38_6, hts _ wd38_7⟩ (pv2S hK hP hD hS hA hX hY 5 rfl rfl) rfl rfl hl.1 rfl (lv_room (Nat.le_of_ble_eq_true rfl)) dL_runScript_6 ⟨Nat.le_of_ble_eq_true rfl, Nat.le_of_ble_eq_true rfl⟩) hP hD hS hA (fun _ => fQ_ad) (fun q9 H locs hq9 hP hD hS => ?_) (fun hk q8 ce H locs hce hcv hcl hP hS => ?_)
  · obtain ⟨hfx, hI9⟩ := hq9
    have hP : va_P g vwCl (aJ cy out 1 f0 :: (fQ cy x a tr s0 s1 pa q9 σ n fl tx ln)) H := hP
    have hD : va_D A (aJ cy out 1 f0 :: (fQ cy x a tr s0 s1 pa q9 σ n fl tx ln)) := hD
    show W _ _ _ _ _ _ _ _ _ _ _ _ _ _ _ (F0 mX 9 ls [.int (nI (rnI sc vn.toNatClampNeg vn.toNatClampNeg σ)), .int (nI 0), .ref out])
    refine lv_i2l (v := (nI (rnI sc vn.toNatClampNeg vn.toNatClampNeg σ)).toInt64) hx hb dL_runScript_9 rfl ?_
    refine va_last hx hb hK hP hD hS 0 3 rfl rfl (vp_in_nI (n := 0) (by omega) (by omega)) dL_runScript_10 (fun H locs hP hD hS => ?_)
    rw [nI_clamp (n := 0) (by omega)] at hP hD
    have hP : va_P g vwCl (aJ cy out 1 (vp_updL f0 0 ((nI (rnI sc vn.toNatClampNeg vn.toNatClampNeg σ)).toInt64)) :: (fQ cy x a tr s0 s1 pa q9 σ n fl tx ln)) H := hP
    have hD : va_D A (aJ cy out 1 (vp_updL f0 0 ((nI (rnI sc vn.toNatClampNeg vn.toNatClampNeg σ)).toInt64)) :: (fQ cy x a tr s0 s1 pa q9 σ n fl tx ln)) := hD
    refine lv_goto (tgt := 18) hx hb dL_runScript_11 (by decide) ?_
    refine lv_iconst (v := (nI 0)) hx hb dL_runScript_18 (by decide) ?_
    exact W.widen (Nat.le_of_ble_eq_true rfl) (Nat.le_of_ble_eq_true rfl) (wr_i ((vp_updL f0 0 ((nI (rnI sc vn.toNatClampNeg vn.toNatClampNeg σ)).toInt64)), q9) (by rw [hfx]; rfl) ⟨fun _ => by simp [vp_updL], by exact hI9⟩ hP hS hx hb hr dL_runScript_19 hlk)
  · have hfc : fRun vn sc = 0 ∨ fRun vn sc = 2 := by unfold fRun; (repeat' split) <;> simp
    rcases hfc with hj | hj
    · exact absurd hj hk
    · rw [hj] at hcl
      refine vx_catch (name := exN 2) (E := exN 2) hown [] ⟨0, 11, 14, 13⟩ [] (by rw [htb]; rfl) (fun z hz => absurd hz List.not_mem_nil) rfl (by decide) (hts _ wd6_11) (va_Nw.use rfl (hY.1 2 (by decide) (by decide))) hce hcv hcl ?_
      show W _ _ _ _ _ _ _ _ _ _ _ _ _ _ _ (F0 mX 14 ls [.ref q8])
      refine lv_astore (lv' := [(5, .ref q8), (0, .ref (x 0)), (1, .int vn), (2, .long sc), (4, .ref out)]) hx hb dL_runScript_14 hl (by decide) rfl (fun ls hl => ?_)
      refine lv_iconst (v := (nI 1)) hx hb dL_runScript_16 (by decide) ?_
      exact W.widen (Nat.le_of_ble_eq_true rfl) (Nat.le_of_ble_eq_true rfl) (wr_i (f0, q) (by rw [hj]; rfl) ⟨fun e => absurd e hk, by exact hI⟩ hP hS hx hb hr dL_runScript_17 hlk)
set_option maxHeartbeats 4000000 in
set_option maxRecDepth 100000 in
theorem c_L_simulate (l : Launch) (hfl : l.stackTraces = false) (g : va_G) (cy : Nat → ClassId) (out : Nat) (f0 : Nat → Int64) (x a tr s0 s1 : Nat → Nat) (pa : Nat → Nat → Nat) (sz : Nat) (bd : Nat) (q : Sc) (σ : Nat → Nat) (Hh : Nat → Nat → Nat) (n : Nat) (K : Nat → Nat → Nat) (fl : Nat → Bool) (tx : Nat → Nat) (ln : Nat) (sd : Int64) (vm : Int32) (hI : fI bd q σ Hh n K fl tx ln) (hbd : bd + 5940 ≤ 100000) : Met l yL_simulate (Cond.codeWith yL_simulate cL_simulate 6 (some .int) [(0, 11, 14, 13)] :: wsL_law) ({ frames := 7, cells := 1, slots := 6, locals := 170 } : Room) (va_Pc [.ref (x 0), .long sd, .int vm, .ref out] (pr2 g cy ([aJ cy out 1 f0] ++ fQ cy x a tr s0 s1 pa q σ n fl tx ln) sz)) (wr_Q (fun _ : (Nat → Int64) × Sc => some (.int (nI (rkm 0 1 0 (fSim vm))))) (fun u => (fSim vm = 0 → u.1 0 = ((simA σ (siS sd σ vm.toNatClampNeg)) : Int32).toInt64) ∧ fI bd u.2 σ Hh n K fl tx ln) (fun u => [aJ cy out 1 u.1] ++ fQ cy x a tr s0 s1 pa u.2 σ n fl tx ln) g (va_A ([aJ cy out 1 f0] ++ fQ cy x a tr s0 s1 pa q σ n fl tx ln) sz)) 1 6 (va_A ([aJ cy out 1 f0] ++ fQ cy x a tr s0 s1 pa q σ n fl tx ln) sz) := by
  refine mt_h (cc := cL_simulate) (maxL := 6) (ret := some .int) (by decide +kernel) (Nat.le_of_ble_eq_true rfl) ?_
  intro pX eX s mX below meth cX ls A hx hb hr hml hown hts hlk htb hsz hAe hA hP hD hK hX hY hl
  subst hsz
  rw [← hAe]
  clear hAe
  have hl : lv_has ls 6 [(0, .ref (x 0)), (1, .long sd), (3, .int vm), (4, .ref out)] := hl
  have hS : va_S A s.heap s.heap [] := va_S.rf
  refine lv_aload hx hb dL_simulate_0 (lv_at hl 3 rfl) ?_
  refine lv_iconst (v := (nI 0)) hx hb dL_simulate_2 (by decide) ?_
  refine lv_aload_n hx hb dL_simulate_3 rfl (lv_at hl 0 rfl) ?_
  refine lv_lload_n hx hb dL_simulate_4 rfl (lv_at hl 1 rfl) ?_
  refine lv_iload_n hx hb dL_simulate_5 rfl (lv_at hl 2 rfl) ?_
  refine tr_call (pre := [aJ cy out 1 f0]) (wc := fQ cy x a tr s0 s1 pa q σ n fl tx ln) (k := fSim vm) (vx_runV (As := [.long sd, .int vm]) (rest := [.int (nI 0), .ref out]) ⟨hx, hb, hml, hown, hts⟩ (c_X7_simulate l hfl g cy x a tr s0 s1 pa s.heap.size bd q σ Hh n K fl tx ln sd vm hI hbd) ⟨cB 2 hts wd40_3 wd1_2 wd40_0 rfl rfl (by decide +kernel) ⟨Nat.le_of_ble_eq_true rfl, Nat.le_of_ble_eq_true rfl⟩, hts _ wd40_1, hts _ wd40_2⟩ (pv2S hK hP hD hS hA hX hY 5 rfl rfl) rfl rfl hl.1 rfl (lv_room (Nat.le_of_ble_eq_true rfl)) dL_simulate_6 ⟨Nat.le_of_ble_eq_true rfl, Nat.le_of_ble_eq_true rfl⟩) hP hD hS hA (fun _ => fQ_ad) (fun q9 H locs hq9 hP hD hS => ?_) (fun hk q8 ce H locs hce hcv hcl hP hS => ?_)
  · obtain ⟨hfx, hI9⟩ := hq9
    have hP : va_P g vwCl (aJ cy out 1 f0 :: (fQ cy x a tr s0 s1 pa q9 σ n fl tx ln)) H := hP
    have hD : va_D A (aJ cy out 1 f0 :: (fQ cy x a tr s0 s1 pa q9 σ n fl tx ln)) := hD
    show W _ _ _ _ _ _ _ _ _ _ _ _ _ _ _ (F0 mX 9 ls [.int (simA σ (siS sd σ vm.toNatClampNeg)), .int (nI 0), .ref out])
    refine lv_i2l (v := (simA σ (siS sd σ vm.toNatClampNeg)).toInt64) hx hb dL_simulate_9 rfl ?_
    refine va_last hx hb hK hP hD hS 0 3 rfl rfl (vp_in_nI (n := 0) (by omega) (by omega)) dL_simulate_10 (fun H locs hP hD hS => ?_)
    rw [nI_clamp (n := 0) (by omega)] at hP hD
    have hP : va_P g vwCl (aJ cy out 1 (vp_updL f0 0 ((simA σ (siS sd σ vm.toNatClampNeg)).toInt64)) :: (fQ cy x a tr s0 s1 pa q9 σ n fl tx ln)) H := hP
    have hD : va_D A (aJ cy out 1 (vp_updL f0 0 ((simA σ (siS sd σ vm.toNatClampNeg)).toInt64)) :: (fQ cy x a tr s0 s1 pa q9 σ n fl tx ln)) := hD
    refine lv_goto (tgt := 18) hx hb dL_simulate_11 (by decide) ?_
    refine lv_iconst (v := (nI 0)) hx hb dL_simulate_18 (by decide) ?_
    exact W.widen (Nat.le_of_ble_eq_true rfl) (Nat.le_of_ble_eq_true rfl) (wr_i ((vp_updL f0 0 ((simA σ (siS sd σ vm.toNatClampNeg)).toInt64)), q9) (by rw [hfx]; rfl) ⟨fun _ => by simp [vp_updL], by exact hI9⟩ hP hS hx hb hr dL_simulate_19 hlk)
  · have hfc : fSim vm = 0 ∨ fSim vm = 2 := by unfold fSim; (repeat' split) <;> simp
    rcases hfc with hj | hj
    · exact absurd hj hk
    · rw [hj] at hcl
      refine vx_catch (name := exN 2) (E := exN 2) hown [] ⟨0, 11, 14, 13⟩ [] (by rw [htb]; rfl) (fun z hz => absurd hz List.not_mem_nil) rfl (by decide) (hts _ wd6_11) (va_Nw.use rfl (hY.1 2 (by decide) (by decide))) hce hcv hcl ?_
      show W _ _ _ _ _ _ _ _ _ _ _ _ _ _ _ (F0 mX 14 ls [.ref q8])
      refine lv_astore (lv' := [(5, .ref q8), (0, .ref (x 0)), (1, .long sd), (3, .int vm), (4, .ref out)]) hx hb dL_simulate_14 hl (by decide) rfl (fun ls hl => ?_)
      refine lv_iconst (v := (nI 1)) hx hb dL_simulate_16 (by decide) ?_
      exact W.widen (Nat.le_of_ble_eq_true rfl) (Nat.le_of_ble_eq_true rfl) (wr_i (f0, q) (by rw [hj]; rfl) ⟨fun e => absurd e hk, by exact hI⟩ hP hS hx hb hr dL_simulate_17 hlk)
set_option maxHeartbeats 4000000 in
set_option maxRecDepth 100000 in
theorem c_L_save (l : Launch) (hfl : l.stackTraces = false) (g : va_G) (cy : Nat → ClassId) (out : Nat) (f0 : Nat → Int64) (x a tr s0 s1 : Nat → Nat) (pa : Nat → Nat → Nat) (sz : Nat) (bd : Nat) (q : Sc) (σ : Nat → Nat) (Hh : Nat → Nat → Nat) (n : Nat) (K : Nat → Nat → Nat) (fl : Nat → Bool) (tx : Nat → Nat) (ln : Nat) (vs : Int32) (hI : fI bd q σ Hh n K fl tx ln) : Met l yL_save (Cond.codeWith yL_save cL_save 4 (some .int) [(0, 9, 12, 28)] :: wsL_law) ({ frames := 7, cells := 1, slots := 6, locals := 104 } : Room) (va_Pc [.ref (x 0), .int vs, .ref out] (pr2 g cy ([aJ cy out 1 f0] ++ fQ cy x a tr s0 s1 pa q σ n fl tx ln) sz)) (wr_Q (fun _ : (Nat → Int64) × Sc => some (.int (nI (rkm 1 0 0 (fSlo vs))))) (fun u => (fSlo vs = 0 → u.1 0 = ((nI (σ 2)) : Int32).toInt64) ∧ fI bd u.2 σ Hh n (if fSlo vs = 0 then sv2 K vs.toNatClampNeg σ else K) (if fSlo vs = 0 then sv2 fl vs.toNatClampNeg true else fl) tx ln) (fun u => [aJ cy out 1 u.1] ++ fQ cy x a tr s0 s1 pa u.2 σ n (if fSlo vs = 0 then sv2 fl vs.toNatClampNeg true else fl) tx ln) g (va_A ([aJ cy out 1 f0] ++ fQ cy x a tr s0 s1 pa q σ n fl tx ln) sz)) 1 6 (va_A ([aJ cy out 1 f0] ++ fQ cy x a tr s0 s1 pa q σ n fl tx ln) sz) := by
  refine mt_h (cc := cL_save) (maxL := 4) (ret := some .int) (by decide +kernel) (Nat.le_of_ble_eq_true rfl) ?_
  intro pX eX s mX below meth cX ls A hx hb hr hml hown hts hlk htb hsz hAe hA hP hD hK hX hY hl
  subst hsz
  rw [← hAe]
  clear hAe
  have hl : lv_has ls 4 [(0, .ref (x 0)), (1, .int vs), (2, .ref out)] := hl
  have hS : va_S A s.heap s.heap [] := va_S.rf
  refine lv_aload_n hx hb dL_save_0 rfl (lv_at hl 2 rfl) ?_
  refine lv_iconst (v := (nI 0)) hx hb dL_save_1 (by decide) ?_
  refine lv_aload_n hx hb dL_save_2 rfl (lv_at hl 0 rfl) ?_
  refine lv_iload_n hx hb dL_save_3 rfl (lv_at hl 1 rfl) ?_
  refine tr_call (pre := [aJ cy out 1 f0]) (wc := fQ cy x a tr s0 s1 pa q σ n fl tx ln) (k := fSlo vs) (vx_runV (As := [.int vs]) (rest := [.int (nI 0), .ref out]) ⟨hx, hb, hml, hown, hts⟩ (c_X7_save l hfl g cy x a tr s0 s1 pa s.heap.size bd q σ Hh n K fl tx ln vs hI ) ⟨cB 1 hts wd41_14 wd1_2 wd41_11 rfl rfl (by decide +kernel) ⟨Nat.le_of_ble_eq_true rfl, Nat.le_of_ble_eq_true rfl⟩, hts _ wd41_12, hts _ wd41_13⟩ (pv2S hK hP hD hS hA hX hY 5 rfl rfl) rfl rfl hl.1 rfl (lv_room (Nat.le_of_ble_eq_true rfl)) dL_save_4 ⟨Nat.le_of_ble_eq_true rfl, Nat.le_of_ble_eq_true rfl⟩) hP hD hS hA (fun _ => fQ_ad) (fun q9 H locs hq9 hP hD hS => ?_) (fun hk q8 ce H locs hce hcv hcl hP hS => ?_)
  · obtain ⟨hfx, hI9⟩ := hq9
    have hP : va_P g vwCl (aJ cy out 1 f0 :: (fQ cy x a tr s0 s1 pa q9 σ n (sv2 fl vs.toNatClampNeg true) tx ln)) H := hP
    have hD : va_D A (aJ cy out 1 f0 :: (fQ cy x a tr s0 s1 pa q9 σ n (sv2 fl vs.toNatClampNeg true) tx ln)) := hD
    show W _ _ _ _ _ _ _ _ _ _ _ _ _ _ _ (F0 mX 7 ls [.int (nI (σ 2)), .int (nI 0), .ref out])
    refine lv_i2l (v := (nI (σ 2)).toInt64) hx hb dL_save_7 rfl ?_
    refine va_last hx hb hK hP hD hS 0 3 rfl rfl (vp_in_nI (n := 0) (by omega) (by omega)) dL_save_8 (fun H locs hP hD hS => ?_)
    rw [nI_clamp (n := 0) (by omega)] at hP hD
    have hP : va_P g vwCl (aJ cy out 1 (vp_updL f0 0 ((nI (σ 2)).toInt64)) :: (fQ cy x a tr s0 s1 pa q9 σ n (sv2 fl vs.toNatClampNeg true) tx ln)) H := hP
    have hD : va_D A (aJ cy out 1 (vp_updL f0 0 ((nI (σ 2)).toInt64)) :: (fQ cy x a tr s0 s1 pa q9 σ n (sv2 fl vs.toNatClampNeg true) tx ln)) := hD
    refine lv_goto (tgt := 15) hx hb dL_save_9 (by decide) ?_
    refine lv_iconst (v := (nI 0)) hx hb dL_save_15 (by decide) ?_
    exact W.widen (Nat.le_of_ble_eq_true rfl) (Nat.le_of_ble_eq_true rfl) (wr_i ((vp_updL f0 0 ((nI (σ 2)).toInt64)), q9) (by rw [hfx]; rfl) ⟨fun _ => by simp [vp_updL], by simp only [if_pos hfx]; exact hI9⟩ (by simp only [if_pos hfx]; exact hP) hS hx hb hr dL_save_16 hlk)
  · have hfc : fSlo vs = 0 ∨ fSlo vs = 1 := by unfold fSlo; (repeat' split) <;> simp
    rcases hfc with hj | hj
    · exact absurd hj hk
    · rw [hj] at hcl
      refine vx_catch (name := exN 1) (E := exN 1) hown [] ⟨0, 9, 12, 28⟩ [] (by rw [htb]; rfl) (fun z hz => absurd hz List.not_mem_nil) rfl (by decide) (hts _ wd25_0) (va_Nw.use rfl (hY.1 1 (by decide) (by decide))) hce hcv hcl ?_
      show W _ _ _ _ _ _ _ _ _ _ _ _ _ _ _ (F0 mX 12 ls [.ref q8])
      refine lv_astore_n (lv' := [(3, .ref q8), (0, .ref (x 0)), (1, .int vs), (2, .ref out)]) hx hb dL_save_12 rfl hl (by decide) rfl (fun ls hl => ?_)
      refine lv_iconst (v := (nI 1)) hx hb dL_save_13 (by decide) ?_
      exact W.widen (Nat.le_of_ble_eq_true rfl) (Nat.le_of_ble_eq_true rfl) (wr_i (f0, q) (by rw [hj]; rfl) ⟨fun e => absurd e hk, by simp only [if_neg hk]; exact hI⟩ (by simp only [if_neg hk]; exact hP) hS hx hb hr dL_save_14 hlk)
set_option maxHeartbeats 4000000 in
set_option maxRecDepth 100000 in
theorem c_L_restore (l : Launch) (hfl : l.stackTraces = false) (g : va_G) (cy : Nat → ClassId) (out : Nat) (f0 : Nat → Int64) (x a tr s0 s1 : Nat → Nat) (pa : Nat → Nat → Nat) (sz : Nat) (bd : Nat) (q : Sc) (σ : Nat → Nat) (Hh : Nat → Nat → Nat) (n : Nat) (K : Nat → Nat → Nat) (fl : Nat → Bool) (tx : Nat → Nat) (ln : Nat) (vs : Int32) (hI : fI bd q σ Hh n K fl tx ln) : Met l yL_restore (Cond.codeWith yL_restore cL_restore 4 (some .int) [(0, 9, 12, 28), (0, 9, 15, 15)] :: wsL_law) ({ frames := 7, cells := 1, slots := 6, locals := 104 } : Room) (va_Pc [.ref (x 0), .int vs, .ref out] (pr2 g cy ([aJ cy out 1 f0] ++ fQ cy x a tr s0 s1 pa q σ n fl tx ln) sz)) (wr_Q (fun _ : (Nat → Int64) × Sc => some (.int (nI (rkm 1 0 2 (fRes fl vs))))) (fun u => (fRes fl vs = 0 → u.1 0 = ((nI (K vs.toNatClampNeg 2)) : Int32).toInt64) ∧ fI bd u.2 (if fRes fl vs = 0 then K vs.toNatClampNeg else σ) Hh (if fRes fl vs = 0 then 0 else n) K fl tx ln) (fun u => [aJ cy out 1 u.1] ++ fQ cy x a tr s0 s1 pa u.2 (if fRes fl vs = 0 then K vs.toNatClampNeg else σ) (if fRes fl vs = 0 then 0 else n) fl tx ln) g (va_A ([aJ cy out 1 f0] ++ fQ cy x a tr s0 s1 pa q σ n fl tx ln) sz)) 1 6 (va_A ([aJ cy out 1 f0] ++ fQ cy x a tr s0 s1 pa q σ n fl tx ln) sz) := by
  refine mt_h (cc := cL_restore) (maxL := 4) (ret := some .int) (by decide +kernel) (Nat.le_of_ble_eq_true rfl) ?_
  intro pX eX s mX below meth cX ls A hx hb hr hml hown hts hlk htb hsz hAe hA hP hD hK hX hY hl
  subst hsz
  rw [← hAe]
  clear hAe
  have hl : lv_has ls 4 [(0, .ref (x 0)), (1, .int vs), (2, .ref out)] := hl
  have hS : va_S A s.heap s.heap [] := va_S.rf
  refine lv_aload_n hx hb dL_restore_0 rfl (lv_at hl 2 rfl) ?_
  refine lv_iconst (v := (nI 0)) hx hb dL_restore_1 (by decide) ?_
  refine lv_aload_n hx hb dL_restore_2 rfl (lv_at hl 0 rfl) ?_
  refine lv_iload_n hx hb dL_restore_3 rfl (lv_at hl 1 rfl) ?_
  refine tr_call (pre := [aJ cy out 1 f0]) (wc := fQ cy x a tr s0 s1 pa q σ n fl tx ln) (k := fRes fl vs) (vx_runV (As := [.int vs]) (rest := [.int (nI 0), .ref out]) ⟨hx, hb, hml, hown, hts⟩ (c_X7_restore l hfl g cy x a tr s0 s1 pa s.heap.size bd q σ Hh n K fl tx ln vs hI ) ⟨cB 1 hts wd42_5 wd1_2 wd42_2 rfl rfl (by decide +kernel) ⟨Nat.le_of_ble_eq_true rfl, Nat.le_of_ble_eq_true rfl⟩, hts _ wd42_3, hts _ wd42_4⟩ (pv2S hK hP hD hS hA hX hY 5 rfl rfl) rfl rfl hl.1 rfl (lv_room (Nat.le_of_ble_eq_true rfl)) dL_restore_4 ⟨Nat.le_of_ble_eq_true rfl, Nat.le_of_ble_eq_true rfl⟩) hP hD hS hA (fun _ => fQ_ad) (fun q9 H locs hq9 hP hD hS => ?_) (fun hk q8 ce H locs hce hcv hcl hP hS => ?_)
  · obtain ⟨hfx, hI9⟩ := hq9
    have hP : va_P g vwCl (aJ cy out 1 f0 :: (fQ cy x a tr s0 s1 pa q9 (K vs.toNatClampNeg) 0 fl tx ln)) H := hP
    have hD : va_D A (aJ cy out 1 f0 :: (fQ cy x a tr s0 s1 pa q9 (K vs.toNatClampNeg) 0 fl tx ln)) := hD
    show W _ _ _ _ _ _ _ _ _ _ _ _ _ _ _ (F0 mX 7 ls [.int (nI (K vs.toNatClampNeg 2)), .int (nI 0), .ref out])
    refine lv_i2l (v := (nI (K vs.toNatClampNeg 2)).toInt64) hx hb dL_restore_7 rfl ?_
    refine va_last hx hb hK hP hD hS 0 3 rfl rfl (vp_in_nI (n := 0) (by omega) (by omega)) dL_restore_8 (fun H locs hP hD hS => ?_)
    rw [nI_clamp (n := 0) (by omega)] at hP hD
    have hP : va_P g vwCl (aJ cy out 1 (vp_updL f0 0 ((nI (K vs.toNatClampNeg 2)).toInt64)) :: (fQ cy x a tr s0 s1 pa q9 (K vs.toNatClampNeg) 0 fl tx ln)) H := hP
    have hD : va_D A (aJ cy out 1 (vp_updL f0 0 ((nI (K vs.toNatClampNeg 2)).toInt64)) :: (fQ cy x a tr s0 s1 pa q9 (K vs.toNatClampNeg) 0 fl tx ln)) := hD
    refine lv_goto (tgt := 18) hx hb dL_restore_9 (by decide) ?_
    refine lv_iconst (v := (nI 0)) hx hb dL_restore_18 (by decide) ?_
    exact W.widen (Nat.le_of_ble_eq_true rfl) (Nat.le_of_ble_eq_true rfl) (wr_i ((vp_updL f0 0 ((nI (K vs.toNatClampNeg 2)).toInt64)), q9) (by rw [hfx]; rfl) ⟨fun _ => by simp [vp_updL], by simp only [if_pos hfx]; exact hI9⟩ (by simp only [if_pos hfx]; exact hP) hS hx hb hr dL_restore_19 hlk)
  · have hfc : fRes fl vs = 0 ∨ fRes fl vs = 1 ∨ fRes fl vs = 3 := by unfold fRes; (repeat' split) <;> simp
    rcases hfc with hj | hj | hj
    · exact absurd hj hk
    · rw [hj] at hcl
      refine vx_catch (name := exN 1) (E := exN 1) hown [] ⟨0, 9, 12, 28⟩ [⟨0, 9, 15, 15⟩] (by rw [htb]; rfl) (fun z hz => absurd hz List.not_mem_nil) rfl (by decide) (hts _ wd25_0) (va_Nw.use rfl (hY.1 1 (by decide) (by decide))) hce hcv hcl ?_
      show W _ _ _ _ _ _ _ _ _ _ _ _ _ _ _ (F0 mX 12 ls [.ref q8])
      refine lv_astore_n (lv' := [(3, .ref q8), (0, .ref (x 0)), (1, .int vs), (2, .ref out)]) hx hb dL_restore_12 rfl hl (by decide) rfl (fun ls hl => ?_)
      refine lv_iconst (v := (nI 1)) hx hb dL_restore_13 (by decide) ?_
      exact W.widen (Nat.le_of_ble_eq_true rfl) (Nat.le_of_ble_eq_true rfl) (wr_i (f0, q) (by rw [hj]; rfl) ⟨fun e => absurd e hk, by simp only [if_neg hk]; exact hI⟩ (by simp only [if_neg hk]; exact hP) hS hx hb hr dL_restore_14 hlk)
    · rw [hj] at hcl
      refine vx_catch (name := exN 3) (E := exN 3) hown [⟨0, 9, 12, 28⟩] ⟨0, 9, 15, 15⟩ [] (by rw [htb]; rfl) (fun z hz => by rcases List.mem_cons.mp hz with rfl | hz; exact Or.inr ⟨by decide, exN 1, hts _ wd25_0, hY.2.1 3 1 (by decide) (by decide) (by decide) (by decide) (by decide)⟩; exact absurd hz List.not_mem_nil) rfl (by decide) (hts _ wd6_12) (va_Nw.use rfl (hY.1 3 (by decide) (by decide))) hce hcv hcl ?_
      show W _ _ _ _ _ _ _ _ _ _ _ _ _ _ _ (F0 mX 15 ls [.ref q8])
      refine lv_astore_n (lv' := [(3, .ref q8), (0, .ref (x 0)), (1, .int vs), (2, .ref out)]) hx hb dL_restore_15 rfl hl (by decide) rfl (fun ls hl => ?_)
      refine lv_iconst (v := (nI 2)) hx hb dL_restore_16 (by decide) ?_
      exact W.widen (Nat.le_of_ble_eq_true rfl) (Nat.le_of_ble_eq_true rfl) (wr_i (f0, q) (by rw [hj]; rfl) ⟨fun e => absurd e hk, by simp only [if_neg hk]; exact hI⟩ (by simp only [if_neg hk]; exact hP) hS hx hb hr dL_restore_17 hlk)
