/-! THE LAW'S HELPERS: each call of the object, under its handlers. -/
set_option maxHeartbeats 4000000 in
set_option maxRecDepth 100000 in
theorem c_L_loses (l : Launch) (hfl : l.stackTraces = false) (g : va_G) (cy : Nat → ClassId) (x a tr s0 s1 : Nat → Nat) (pa : Nat → Nat → Nat) (sz : Nat) (bd : Nat) (q : Sc) (σ : Nat → Nat) (Hh : Nat → Nat → Nat) (n : Nat) (K : Nat → Nat → Nat) (fl : Nat → Bool) (tx : Nat → Nat) (ln : Nat) (vm : Int32) (vp : Int32) (vc : Int32) (vr : Int32) (hI : fI bd q σ Hh n K fl tx ln) : Met l yL_loses (Cond.codeWith yL_loses cL_loses 6 (some .int) [(0, 9, 10, 13), (0, 9, 15, 16), (0, 9, 20, 19)] :: wsL_law) ({ frames := 8, cells := 1, slots := 6, locals := 128 } : Room) (va_Pc [.ref (x 0), .int vm, .int vp, .int vc, .int vr] (pr2 g cy (fQ cy x a tr s0 s1 pa q σ n fl tx ln) sz)) (wr_Q (fun _ : Sc => some (.int (an (fLose σ vm vp vc vr) (nI (σ 0))))) (fun u => fI (if fLose σ vm vp vc vr = 0 then bd else bd) u (if fLose σ vm vp vc vr = 0 then loseR σ vm vp vc vr else σ) (if fLose σ vm vp vc vr = 0 then hiH Hh n σ else Hh) (if fLose σ vm vp vc vr = 0 then hiN n else n) K fl tx ln) (fun u => fQ cy x a tr s0 s1 pa u (if fLose σ vm vp vc vr = 0 then loseR σ vm vp vc vr else σ) (if fLose σ vm vp vc vr = 0 then hiN n else n) fl tx ln) g (va_A (fQ cy x a tr s0 s1 pa q σ n fl tx ln) sz)) 1 6 (va_A (fQ cy x a tr s0 s1 pa q σ n fl tx ln) sz) := by
  refine mt_h (cc := cL_loses) (maxL := 6) (ret := some .int) (by decide +kernel) (Nat.le_of_ble_eq_true rfl) ?_
  intro pX eX s mX below meth cX ls A hx hb hr hml hown hts hlk htb hsz hAe hA hP hD hK hX hY hl
  subst hsz
  rw [← hAe]
  clear hAe
  have hl : lv_has ls 6 [(0, .ref (x 0)), (1, .int vm), (2, .int vp), (3, .int vc), (4, .int vr)] := hl
  have hS : va_S A s.heap s.heap [] := va_S.rf
  refine lv_aload_n hx hb dL_loses_0 rfl (lv_at hl 0 rfl) ?_
  refine lv_iload_n hx hb dL_loses_1 rfl (lv_at hl 1 rfl) ?_
  refine lv_iload_n hx hb dL_loses_2 rfl (lv_at hl 2 rfl) ?_
  refine lv_iload_n hx hb dL_loses_3 rfl (lv_at hl 3 rfl) ?_
  refine lv_iload hx hb dL_loses_4 (lv_at hl 4 rfl) ?_
  refine tr_call (pre := []) (wc := fQ cy x a tr s0 s1 pa q σ n fl tx ln) (k := fLose σ vm vp vc vr) (vx_runV (As := [.int vm, .int vp, .int vc, .int vr]) (rest := []) ⟨hx, hb, hml, hown, hts⟩ (c_X7_lose l hfl g cy x a tr s0 s1 pa s.heap.size bd q σ Hh n K fl tx ln vm vp vc vr hI ) ⟨cB 4 hts wd6_6 wd1_2 wd6_3 rfl rfl (by decide +kernel) ⟨Nat.le_of_ble_eq_true rfl, Nat.le_of_ble_eq_true rfl⟩, hts _ wd6_4, hts _ wd6_5⟩ (pv2S (pre := []) hK hP hD hS hA hX hY 5 rfl rfl) rfl rfl hl.1 rfl (lv_room (Nat.le_of_ble_eq_true rfl)) dL_loses_6 ⟨Nat.le_of_ble_eq_true rfl, Nat.le_of_ble_eq_true rfl⟩) hP hD hS hA (fun _ => fQ_ad) (fun q9 H locs hq9 hP hD hS => ?_) (fun hk q8 ce H locs hce hcv hcl hP hS => ?_)
  · obtain ⟨hfx, hI9⟩ := hq9
    have hP : va_P g vwCl ((fQ cy x a tr s0 s1 pa q9 (loseR σ vm vp vc vr) (hiN n) fl tx ln)) H := hP
    have hD : va_D A ((fQ cy x a tr s0 s1 pa q9 (loseR σ vm vp vc vr) (hiN n) fl tx ln)) := hD
    show W _ _ _ _ _ _ _ _ _ _ _ _ _ _ _ (F0 mX 9 ls [.int (nI (σ 0))])
    exact W.widen (Nat.le_of_ble_eq_true rfl) (Nat.le_of_ble_eq_true rfl) (wr_i q9 (by rw [an_0 hfx]) (by simp only [if_pos hfx]; exact hI9) (by simp only [if_pos hfx]; exact hP) hS hx hb hr dL_loses_9 hlk)
  · have hfc : fLose σ vm vp vc vr = 0 ∨ fLose σ vm vp vc vr = 1 ∨ fLose σ vm vp vc vr = 2 ∨ fLose σ vm vp vc vr = 3 := by unfold fLose; (repeat' split) <;> simp
    rcases hfc with hj | hj | hj | hj
    · exact absurd hj hk
    · rw [hj] at hcl
      refine vx_catch (name := exN 1) (E := exN 1) hown [] ⟨0, 9, 10, 13⟩ [⟨0, 9, 15, 16⟩, ⟨0, 9, 20, 19⟩] (by rw [htb]; rfl) (fun z hz => absurd hz List.not_mem_nil) rfl (by decide) (hts _ wd5_21) (va_Nw.use rfl (hY.1 1 (by decide) (by decide))) hce hcv hcl ?_
      show W _ _ _ _ _ _ _ _ _ _ _ _ _ _ _ (F0 mX 10 ls [.ref q8])
      refine lv_astore (lv' := [(5, .ref q8), (0, .ref (x 0)), (1, .int vm), (2, .int vp), (3, .int vc), (4, .int vr)]) hx hb dL_loses_10 hl (by decide) rfl (fun ls hl => ?_)
      refine lv_ldc hx hb hown (hts _ wd6_0) dL_loses_12 ?_
      exact W.widen (Nat.le_of_ble_eq_true rfl) (Nat.le_of_ble_eq_true rfl) (wr_i q (by rw [an_k hj (by decide)]; rfl) (by simp only [if_neg hk]; exact hI) (by simp only [if_neg hk]; exact hP) hS hx hb hr dL_loses_14 hlk)
    · rw [hj] at hcl
      refine vx_catch (name := exN 2) (E := exN 2) hown [⟨0, 9, 10, 13⟩] ⟨0, 9, 15, 16⟩ [⟨0, 9, 20, 19⟩] (by rw [htb]; rfl) (fun z hz => by rcases List.mem_cons.mp hz with rfl | hz; exact Or.inr ⟨by decide, exN 1, hts _ wd5_21, hY.2.1 2 1 (by decide) (by decide) (by decide) (by decide) (by decide)⟩; exact absurd hz List.not_mem_nil) rfl (by decide) (hts _ wd5_22) (va_Nw.use rfl (hY.1 2 (by decide) (by decide))) hce hcv hcl ?_
      show W _ _ _ _ _ _ _ _ _ _ _ _ _ _ _ (F0 mX 15 ls [.ref q8])
      refine lv_astore (lv' := [(5, .ref q8), (0, .ref (x 0)), (1, .int vm), (2, .int vp), (3, .int vc), (4, .int vr)]) hx hb dL_loses_15 hl (by decide) rfl (fun ls hl => ?_)
      refine lv_ldc hx hb hown (hts _ wd6_1) dL_loses_17 ?_
      exact W.widen (Nat.le_of_ble_eq_true rfl) (Nat.le_of_ble_eq_true rfl) (wr_i q (by rw [an_k hj (by decide)]; rfl) (by simp only [if_neg hk]; exact hI) (by simp only [if_neg hk]; exact hP) hS hx hb hr dL_loses_19 hlk)
    · rw [hj] at hcl
      refine vx_catch (name := exN 3) (E := exN 3) hown [⟨0, 9, 10, 13⟩, ⟨0, 9, 15, 16⟩] ⟨0, 9, 20, 19⟩ [] (by rw [htb]; rfl) (fun z hz => by rcases List.mem_cons.mp hz with rfl | hz; exact Or.inr ⟨by decide, exN 1, hts _ wd5_21, hY.2.1 3 1 (by decide) (by decide) (by decide) (by decide) (by decide)⟩; rcases List.mem_cons.mp hz with rfl | hz; exact Or.inr ⟨by decide, exN 2, hts _ wd5_22, hY.2.1 3 2 (by decide) (by decide) (by decide) (by decide) (by decide)⟩; exact absurd hz List.not_mem_nil) rfl (by decide) (hts _ wd5_23) (va_Nw.use rfl (hY.1 3 (by decide) (by decide))) hce hcv hcl ?_
      show W _ _ _ _ _ _ _ _ _ _ _ _ _ _ _ (F0 mX 20 ls [.ref q8])
      refine lv_astore (lv' := [(5, .ref q8), (0, .ref (x 0)), (1, .int vm), (2, .int vp), (3, .int vc), (4, .int vr)]) hx hb dL_loses_20 hl (by decide) rfl (fun ls hl => ?_)
      refine lv_ldc hx hb hown (hts _ wd6_2) dL_loses_22 ?_
      exact W.widen (Nat.le_of_ble_eq_true rfl) (Nat.le_of_ble_eq_true rfl) (wr_i q (by rw [an_k hj (by decide)]; rfl) (by simp only [if_neg hk]; exact hI) (by simp only [if_neg hk]; exact hP) hS hx hb hr dL_loses_24 hlk)
set_option maxHeartbeats 4000000 in
set_option maxRecDepth 100000 in
theorem c_L_sights (l : Launch) (hfl : l.stackTraces = false) (g : va_G) (cy : Nat → ClassId) (x a tr s0 s1 : Nat → Nat) (pa : Nat → Nat → Nat) (sz : Nat) (bd : Nat) (q : Sc) (σ : Nat → Nat) (Hh : Nat → Nat → Nat) (n : Nat) (K : Nat → Nat → Nat) (fl : Nat → Bool) (tx : Nat → Nat) (ln : Nat) (vf : Int32) (vc : Int32) (vm : Int32) (va : Int32) (ph : Bool) (hI : fI bd q σ Hh n K fl tx ln) : Met l yL_sights (Cond.codeWith yL_sights cL_sights 7 (some .int) [(0, 11, 12, 13), (0, 11, 17, 16), (0, 11, 22, 19)] :: wsL_law) ({ frames := 8, cells := 1, slots := 6, locals := 147 } : Room) (va_Pc [.ref (x 0), .int vf, .int vc, .int vm, .int va, .int (bI ph)] (pr2 g cy (fQ cy x a tr s0 s1 pa q σ n fl tx ln) sz)) (wr_Q (fun _ : Sc => some (.int (an (fTell σ vf vc vm va) (nI (sightA σ vf vc vm va))))) (fun u => fI (if fTell σ vf vc vm va = 0 then bd else bd) u (if fTell σ vf vc vm va = 0 then sightR σ vf vc vm va ph else σ) (if fTell σ vf vc vm va = 0 then hiH Hh n σ else Hh) (if fTell σ vf vc vm va = 0 then hiN n else n) K fl tx ln) (fun u => fQ cy x a tr s0 s1 pa u (if fTell σ vf vc vm va = 0 then sightR σ vf vc vm va ph else σ) (if fTell σ vf vc vm va = 0 then hiN n else n) fl tx ln) g (va_A (fQ cy x a tr s0 s1 pa q σ n fl tx ln) sz)) 1 6 (va_A (fQ cy x a tr s0 s1 pa q σ n fl tx ln) sz) := by
  refine mt_h (cc := cL_sights) (maxL := 7) (ret := some .int) (by decide +kernel) (Nat.le_of_ble_eq_true rfl) ?_
  intro pX eX s mX below meth cX ls A hx hb hr hml hown hts hlk htb hsz hAe hA hP hD hK hX hY hl
  subst hsz
  rw [← hAe]
  clear hAe
  have hl : lv_has ls 7 [(0, .ref (x 0)), (1, .int vf), (2, .int vc), (3, .int vm), (4, .int va), (5, .int (bI ph))] := hl
  have hS : va_S A s.heap s.heap [] := va_S.rf
  refine lv_aload_n hx hb dL_sights_0 rfl (lv_at hl 0 rfl) ?_
  refine lv_iload_n hx hb dL_sights_1 rfl (lv_at hl 1 rfl) ?_
  refine lv_iload_n hx hb dL_sights_2 rfl (lv_at hl 2 rfl) ?_
  refine lv_iload_n hx hb dL_sights_3 rfl (lv_at hl 3 rfl) ?_
  refine lv_iload hx hb dL_sights_4 (lv_at hl 4 rfl) ?_
  refine lv_iload hx hb dL_sights_6 (lv_at hl 5 rfl) ?_
  refine tr_call (pre := []) (wc := fQ cy x a tr s0 s1 pa q σ n fl tx ln) (k := fTell σ vf vc vm va) (vx_runV (As := [.int vf, .int vc, .int vm, .int va, .int (bI ph)]) (rest := []) ⟨hx, hb, hml, hown, hts⟩ (c_X7_sight l hfl g cy x a tr s0 s1 pa s.heap.size bd q σ Hh n K fl tx ln vf vc vm va ph hI ) ⟨cB 5 hts wd25_19 wd1_2 wd25_16 rfl rfl (by decide +kernel) ⟨Nat.le_of_ble_eq_true rfl, Nat.le_of_ble_eq_true rfl⟩, hts _ wd25_17, hts _ wd25_18⟩ (pv2S (pre := []) hK hP hD hS hA hX hY 5 rfl rfl) rfl rfl hl.1 rfl (lv_room (Nat.le_of_ble_eq_true rfl)) dL_sights_8 ⟨Nat.le_of_ble_eq_true rfl, Nat.le_of_ble_eq_true rfl⟩) hP hD hS hA (fun _ => fQ_ad) (fun q9 H locs hq9 hP hD hS => ?_) (fun hk q8 ce H locs hce hcv hcl hP hS => ?_)
  · obtain ⟨hfx, hI9⟩ := hq9
    have hP : va_P g vwCl ((fQ cy x a tr s0 s1 pa q9 (sightR σ vf vc vm va ph) (hiN n) fl tx ln)) H := hP
    have hD : va_D A ((fQ cy x a tr s0 s1 pa q9 (sightR σ vf vc vm va ph) (hiN n) fl tx ln)) := hD
    show W _ _ _ _ _ _ _ _ _ _ _ _ _ _ _ (F0 mX 11 ls [.int (nI (sightA σ vf vc vm va))])
    exact W.widen (Nat.le_of_ble_eq_true rfl) (Nat.le_of_ble_eq_true rfl) (wr_i q9 (by rw [an_0 hfx]) (by simp only [if_pos hfx]; exact hI9) (by simp only [if_pos hfx]; exact hP) hS hx hb hr dL_sights_11 hlk)
  · have hfc : fTell σ vf vc vm va = 0 ∨ fTell σ vf vc vm va = 1 ∨ fTell σ vf vc vm va = 2 ∨ fTell σ vf vc vm va = 3 := by unfold fTell; (repeat' split) <;> simp
    rcases hfc with hj | hj | hj | hj
    · exact absurd hj hk
    · rw [hj] at hcl
      refine vx_catch (name := exN 1) (E := exN 1) hown [] ⟨0, 11, 12, 13⟩ [⟨0, 11, 17, 16⟩, ⟨0, 11, 22, 19⟩] (by rw [htb]; rfl) (fun z hz => absurd hz List.not_mem_nil) rfl (by decide) (hts _ wd5_21) (va_Nw.use rfl (hY.1 1 (by decide) (by decide))) hce hcv hcl ?_
      show W _ _ _ _ _ _ _ _ _ _ _ _ _ _ _ (F0 mX 12 ls [.ref q8])
      refine lv_astore (lv' := [(6, .ref q8), (0, .ref (x 0)), (1, .int vf), (2, .int vc), (3, .int vm), (4, .int va), (5, .int (bI ph))]) hx hb dL_sights_12 hl (by decide) rfl (fun ls hl => ?_)
      refine lv_ldc hx hb hown (hts _ wd6_0) dL_sights_14 ?_
      exact W.widen (Nat.le_of_ble_eq_true rfl) (Nat.le_of_ble_eq_true rfl) (wr_i q (by rw [an_k hj (by decide)]; rfl) (by simp only [if_neg hk]; exact hI) (by simp only [if_neg hk]; exact hP) hS hx hb hr dL_sights_16 hlk)
    · rw [hj] at hcl
      refine vx_catch (name := exN 2) (E := exN 2) hown [⟨0, 11, 12, 13⟩] ⟨0, 11, 17, 16⟩ [⟨0, 11, 22, 19⟩] (by rw [htb]; rfl) (fun z hz => by rcases List.mem_cons.mp hz with rfl | hz; exact Or.inr ⟨by decide, exN 1, hts _ wd5_21, hY.2.1 2 1 (by decide) (by decide) (by decide) (by decide) (by decide)⟩; exact absurd hz List.not_mem_nil) rfl (by decide) (hts _ wd5_22) (va_Nw.use rfl (hY.1 2 (by decide) (by decide))) hce hcv hcl ?_
      show W _ _ _ _ _ _ _ _ _ _ _ _ _ _ _ (F0 mX 17 ls [.ref q8])
      refine lv_astore (lv' := [(6, .ref q8), (0, .ref (x 0)), (1, .int vf), (2, .int vc), (3, .int vm), (4, .int va), (5, .int (bI ph))]) hx hb dL_sights_17 hl (by decide) rfl (fun ls hl => ?_)
      refine lv_ldc hx hb hown (hts _ wd6_1) dL_sights_19 ?_
      exact W.widen (Nat.le_of_ble_eq_true rfl) (Nat.le_of_ble_eq_true rfl) (wr_i q (by rw [an_k hj (by decide)]; rfl) (by simp only [if_neg hk]; exact hI) (by simp only [if_neg hk]; exact hP) hS hx hb hr dL_sights_21 hlk)
    · rw [hj] at hcl
      refine vx_catch (name := exN 3) (E := exN 3) hown [⟨0, 11, 12, 13⟩, ⟨0, 11, 17, 16⟩] ⟨0, 11, 22, 19⟩ [] (by rw [htb]; rfl) (fun z hz => by rcases List.mem_cons.mp hz with rfl | hz; exact Or.inr ⟨by decide, exN 1, hts _ wd5_21, hY.2.1 3 1 (by decide) (by decide) (by decide) (by decide) (by decide)⟩; rcases List.mem_cons.mp hz with rfl | hz; exact Or.inr ⟨by decide, exN 2, hts _ wd5_22, hY.2.1 3 2 (by decide) (by decide) (by decide) (by decide) (by decide)⟩; exact absurd hz List.not_mem_nil) rfl (by decide) (hts _ wd5_23) (va_Nw.use rfl (hY.1 3 (by decide) (by decide))) hce hcv hcl ?_
      show W _ _ _ _ _ _ _ _ _ _ _ _ _ _ _ (F0 mX 22 ls [.ref q8])
      refine lv_astore (lv' := [(6, .ref q8), (0, .ref (x 0)), (1, .int vf), (2, .int vc), (3, .int vm), (4, .int va), (5, .int (bI ph))]) hx hb dL_sights_22 hl (by decide) rfl (fun ls hl => ?_)
      refine lv_ldc hx hb hown (hts _ wd6_2) dL_sights_24 ?_
      exact W.widen (Nat.le_of_ble_eq_true rfl) (Nat.le_of_ble_eq_true rfl) (wr_i q (by rw [an_k hj (by decide)]; rfl) (by simp only [if_neg hk]; exact hI) (by simp only [if_neg hk]; exact hP) hS hx hb hr dL_sights_26 hlk)
set_option maxHeartbeats 4000000 in
set_option maxRecDepth 100000 in
theorem c_L_closes (l : Launch) (hfl : l.stackTraces = false) (g : va_G) (cy : Nat → ClassId) (x a tr s0 s1 : Nat → Nat) (pa : Nat → Nat → Nat) (sz : Nat) (bd : Nat) (q : Sc) (σ : Nat → Nat) (Hh : Nat → Nat → Nat) (n : Nat) (K : Nat → Nat → Nat) (fl : Nat → Bool) (tx : Nat → Nat) (ln : Nat) (va : Int32) (vb : Int32) (on : Bool) (hI : fI bd q σ Hh n K fl tx ln) : Met l yL_closes (Cond.codeWith yL_closes cL_closes 5 (some .int) [(0, 7, 8, 13), (0, 7, 13, 16)] :: wsL_law) ({ frames := 8, cells := 1, slots := 6, locals := 139 } : Room) (va_Pc [.ref (x 0), .int va, .int vb, .int (bI on)] (pr2 g cy (fQ cy x a tr s0 s1 pa q σ n fl tx ln) sz)) (wr_Q (fun _ : Sc => some (.int (an (fClose va vb) (nI (closeA σ va vb on))))) (fun u => fI (if fClose va vb = 0 then bd else bd) u (if fClose va vb = 0 then closeR σ va vb on else σ) (if fClose va vb = 0 then hiH Hh n σ else Hh) (if fClose va vb = 0 then hiN n else n) K fl tx ln) (fun u => fQ cy x a tr s0 s1 pa u (if fClose va vb = 0 then closeR σ va vb on else σ) (if fClose va vb = 0 then hiN n else n) fl tx ln) g (va_A (fQ cy x a tr s0 s1 pa q σ n fl tx ln) sz)) 1 6 (va_A (fQ cy x a tr s0 s1 pa q σ n fl tx ln) sz) := by
  refine mt_h (cc := cL_closes) (maxL := 5) (ret := some .int) (by decide +kernel) (Nat.le_of_ble_eq_true rfl) ?_
  intro pX eX s mX below meth cX ls A hx hb hr hml hown hts hlk htb hsz hAe hA hP hD hK hX hY hl
  subst hsz
  rw [← hAe]
  clear hAe
  have hl : lv_has ls 5 [(0, .ref (x 0)), (1, .int va), (2, .int vb), (3, .int (bI on))] := hl
  have hS : va_S A s.heap s.heap [] := va_S.rf
  refine lv_aload_n hx hb dL_closes_0 rfl (lv_at hl 0 rfl) ?_
  refine lv_iload_n hx hb dL_closes_1 rfl (lv_at hl 1 rfl) ?_
  refine lv_iload_n hx hb dL_closes_2 rfl (lv_at hl 2 rfl) ?_
  refine lv_iload_n hx hb dL_closes_3 rfl (lv_at hl 3 rfl) ?_
  refine tr_call (pre := []) (wc := fQ cy x a tr s0 s1 pa q σ n fl tx ln) (k := fClose va vb) (vx_runV (As := [.int va, .int vb, .int (bI on)]) (rest := []) ⟨hx, hb, hml, hown, hts⟩ (c_X7_close l hfl g cy x a tr s0 s1 pa s.heap.size bd q σ Hh n K fl tx ln va vb on hI ) ⟨cB 3 hts wd26_4 wd1_2 wd26_1 rfl rfl (by decide +kernel) ⟨Nat.le_of_ble_eq_true rfl, Nat.le_of_ble_eq_true rfl⟩, hts _ wd26_2, hts _ wd26_3⟩ (pv2S (pre := []) hK hP hD hS hA hX hY 5 rfl rfl) rfl rfl hl.1 rfl (lv_room (Nat.le_of_ble_eq_true rfl)) dL_closes_4 ⟨Nat.le_of_ble_eq_true rfl, Nat.le_of_ble_eq_true rfl⟩) hP hD hS hA (fun _ => fQ_ad) (fun q9 H locs hq9 hP hD hS => ?_) (fun hk q8 ce H locs hce hcv hcl hP hS => ?_)
  · obtain ⟨hfx, hI9⟩ := hq9
    have hP : va_P g vwCl ((fQ cy x a tr s0 s1 pa q9 (closeR σ va vb on) (hiN n) fl tx ln)) H := hP
    have hD : va_D A ((fQ cy x a tr s0 s1 pa q9 (closeR σ va vb on) (hiN n) fl tx ln)) := hD
    show W _ _ _ _ _ _ _ _ _ _ _ _ _ _ _ (F0 mX 7 ls [.int (nI (closeA σ va vb on))])
    exact W.widen (Nat.le_of_ble_eq_true rfl) (Nat.le_of_ble_eq_true rfl) (wr_i q9 (by rw [an_0 hfx]) (by simp only [if_pos hfx]; exact hI9) (by simp only [if_pos hfx]; exact hP) hS hx hb hr dL_closes_7 hlk)
  · have hfc : fClose va vb = 0 ∨ fClose va vb = 1 ∨ fClose va vb = 2 := by unfold fClose; (repeat' split) <;> simp
    rcases hfc with hj | hj | hj
    · exact absurd hj hk
    · rw [hj] at hcl
      refine vx_catch (name := exN 1) (E := exN 1) hown [] ⟨0, 7, 8, 13⟩ [⟨0, 7, 13, 16⟩] (by rw [htb]; rfl) (fun z hz => absurd hz List.not_mem_nil) rfl (by decide) (hts _ wd5_21) (va_Nw.use rfl (hY.1 1 (by decide) (by decide))) hce hcv hcl ?_
      show W _ _ _ _ _ _ _ _ _ _ _ _ _ _ _ (F0 mX 8 ls [.ref q8])
      refine lv_astore (lv' := [(4, .ref q8), (0, .ref (x 0)), (1, .int va), (2, .int vb), (3, .int (bI on))]) hx hb dL_closes_8 hl (by decide) rfl (fun ls hl => ?_)
      refine lv_ldc hx hb hown (hts _ wd6_0) dL_closes_10 ?_
      exact W.widen (Nat.le_of_ble_eq_true rfl) (Nat.le_of_ble_eq_true rfl) (wr_i q (by rw [an_k hj (by decide)]; rfl) (by simp only [if_neg hk]; exact hI) (by simp only [if_neg hk]; exact hP) hS hx hb hr dL_closes_12 hlk)
    · rw [hj] at hcl
      refine vx_catch (name := exN 2) (E := exN 2) hown [⟨0, 7, 8, 13⟩] ⟨0, 7, 13, 16⟩ [] (by rw [htb]; rfl) (fun z hz => by rcases List.mem_cons.mp hz with rfl | hz; exact Or.inr ⟨by decide, exN 1, hts _ wd5_21, hY.2.1 2 1 (by decide) (by decide) (by decide) (by decide) (by decide)⟩; exact absurd hz List.not_mem_nil) rfl (by decide) (hts _ wd5_22) (va_Nw.use rfl (hY.1 2 (by decide) (by decide))) hce hcv hcl ?_
      show W _ _ _ _ _ _ _ _ _ _ _ _ _ _ _ (F0 mX 13 ls [.ref q8])
      refine lv_astore (lv' := [(4, .ref q8), (0, .ref (x 0)), (1, .int va), (2, .int vb), (3, .int (bI on))]) hx hb dL_closes_13 hl (by decide) rfl (fun ls hl => ?_)
      refine lv_ldc hx hb hown (hts _ wd6_1) dL_closes_15 ?_
      exact W.widen (Nat.le_of_ble_eq_true rfl) (Nat.le_of_ble_eq_true rfl) (wr_i q (by rw [an_k hj (by decide)]; rfl) (by simp only [if_neg hk]; exact hI) (by simp only [if_neg hk]; exact hP) hS hx hb hr dL_closes_17 hlk)
set_option maxHeartbeats 4000000 in
set_option maxRecDepth 100000 in
theorem c_L_ifs (l : Launch) (hfl : l.stackTraces = false) (g : va_G) (cy : Nat → ClassId) (x a tr s0 s1 : Nat → Nat) (pa : Nat → Nat → Nat) (sz : Nat) (bd : Nat) (q : Sc) (σ : Nat → Nat) (Hh : Nat → Nat → Nat) (n : Nat) (K : Nat → Nat → Nat) (fl : Nat → Bool) (tx : Nat → Nat) (ln : Nat) (vd : Int32) (vf : Int32) (vc : Int32) (vo : Int32) (hI : fI bd q σ Hh n K fl tx ln) : Met l yL_ifs (Cond.codeWith yL_ifs cL_ifs 6 (some .int) [(0, 9, 10, 13), (0, 9, 15, 19)] :: wsL_law) ({ frames := 8, cells := 1, slots := 6, locals := 145 } : Room) (va_Pc [.ref (x 0), .int vd, .int vf, .int vc, .int vo] (pr2 g cy (fQ cy x a tr s0 s1 pa q σ n fl tx ln) sz)) (wr_Q (fun _ : Sc => some (.int (an (fIff σ vd vf vc vo) (nI (shr σ vd.toNatClampNeg vf.toNatClampNeg vc.toNatClampNeg vo.toNatClampNeg))))) (fun u => fI bd u σ Hh n K fl tx ln) (fun u => fQ cy x a tr s0 s1 pa u σ n fl tx ln) g (va_A (fQ cy x a tr s0 s1 pa q σ n fl tx ln) sz)) 1 6 (va_A (fQ cy x a tr s0 s1 pa q σ n fl tx ln) sz) := by
  refine mt_h (cc := cL_ifs) (maxL := 6) (ret := some .int) (by decide +kernel) (Nat.le_of_ble_eq_true rfl) ?_
  intro pX eX s mX below meth cX ls A hx hb hr hml hown hts hlk htb hsz hAe hA hP hD hK hX hY hl
  subst hsz
  rw [← hAe]
  clear hAe
  have hl : lv_has ls 6 [(0, .ref (x 0)), (1, .int vd), (2, .int vf), (3, .int vc), (4, .int vo)] := hl
  have hS : va_S A s.heap s.heap [] := va_S.rf
  refine lv_aload_n hx hb dL_ifs_0 rfl (lv_at hl 0 rfl) ?_
  refine lv_iload_n hx hb dL_ifs_1 rfl (lv_at hl 1 rfl) ?_
  refine lv_iload_n hx hb dL_ifs_2 rfl (lv_at hl 2 rfl) ?_
  refine lv_iload_n hx hb dL_ifs_3 rfl (lv_at hl 3 rfl) ?_
  refine lv_iload hx hb dL_ifs_4 (lv_at hl 4 rfl) ?_
  refine tr_call (pre := []) (wc := fQ cy x a tr s0 s1 pa q σ n fl tx ln) (k := fIff σ vd vf vc vo) (vx_runV (As := [.int vd, .int vf, .int vc, .int vo]) (rest := []) ⟨hx, hb, hml, hown, hts⟩ (c_X7_ifFound l hfl g cy x a tr s0 s1 pa s.heap.size bd q σ Hh n K fl tx ln vd vf vc vo hI ) ⟨cB 4 hts wd26_17 wd1_2 wd26_14 rfl rfl (by decide +kernel) ⟨Nat.le_of_ble_eq_true rfl, Nat.le_of_ble_eq_true rfl⟩, hts _ wd26_15, hts _ wd26_16⟩ (pv2S (pre := []) hK hP hD hS hA hX hY 5 rfl rfl) rfl rfl hl.1 rfl (lv_room (Nat.le_of_ble_eq_true rfl)) dL_ifs_6 ⟨Nat.le_of_ble_eq_true rfl, Nat.le_of_ble_eq_true rfl⟩) hP hD hS hA (fun _ => fQ_ad) (fun q9 H locs hq9 hP hD hS => ?_) (fun hk q8 ce H locs hce hcv hcl hP hS => ?_)
  · obtain ⟨hfx, hI9⟩ := hq9
    have hP : va_P g vwCl ((fQ cy x a tr s0 s1 pa q9 σ n fl tx ln)) H := hP
    have hD : va_D A ((fQ cy x a tr s0 s1 pa q9 σ n fl tx ln)) := hD
    show W _ _ _ _ _ _ _ _ _ _ _ _ _ _ _ (F0 mX 9 ls [.int (nI (shr σ vd.toNatClampNeg vf.toNatClampNeg vc.toNatClampNeg vo.toNatClampNeg))])
    exact W.widen (Nat.le_of_ble_eq_true rfl) (Nat.le_of_ble_eq_true rfl) (wr_i q9 (by rw [an_0 hfx]) (by exact hI9) hP hS hx hb hr dL_ifs_9 hlk)
  · have hfc : fIff σ vd vf vc vo = 0 ∨ fIff σ vd vf vc vo = 1 ∨ fIff σ vd vf vc vo = 3 := by unfold fIff fFind fAsk; (repeat' split) <;> simp
    rcases hfc with hj | hj | hj
    · exact absurd hj hk
    · rw [hj] at hcl
      refine vx_catch (name := exN 1) (E := exN 1) hown [] ⟨0, 9, 10, 13⟩ [⟨0, 9, 15, 19⟩] (by rw [htb]; rfl) (fun z hz => absurd hz List.not_mem_nil) rfl (by decide) (hts _ wd5_21) (va_Nw.use rfl (hY.1 1 (by decide) (by decide))) hce hcv hcl ?_
      show W _ _ _ _ _ _ _ _ _ _ _ _ _ _ _ (F0 mX 10 ls [.ref q8])
      refine lv_astore (lv' := [(5, .ref q8), (0, .ref (x 0)), (1, .int vd), (2, .int vf), (3, .int vc), (4, .int vo)]) hx hb dL_ifs_10 hl (by decide) rfl (fun ls hl => ?_)
      refine lv_ldc hx hb hown (hts _ wd6_0) dL_ifs_12 ?_
      exact W.widen (Nat.le_of_ble_eq_true rfl) (Nat.le_of_ble_eq_true rfl) (wr_i q (by rw [an_k hj (by decide)]; rfl) (by exact hI) hP hS hx hb hr dL_ifs_14 hlk)
    · rw [hj] at hcl
      refine vx_catch (name := exN 3) (E := exN 3) hown [⟨0, 9, 10, 13⟩] ⟨0, 9, 15, 19⟩ [] (by rw [htb]; rfl) (fun z hz => by rcases List.mem_cons.mp hz with rfl | hz; exact Or.inr ⟨by decide, exN 1, hts _ wd5_21, hY.2.1 3 1 (by decide) (by decide) (by decide) (by decide) (by decide)⟩; exact absurd hz List.not_mem_nil) rfl (by decide) (hts _ wd5_23) (va_Nw.use rfl (hY.1 3 (by decide) (by decide))) hce hcv hcl ?_
      show W _ _ _ _ _ _ _ _ _ _ _ _ _ _ _ (F0 mX 15 ls [.ref q8])
      refine lv_astore (lv' := [(5, .ref q8), (0, .ref (x 0)), (1, .int vd), (2, .int vf), (3, .int vc), (4, .int vo)]) hx hb dL_ifs_15 hl (by decide) rfl (fun ls hl => ?_)
      refine lv_ldc hx hb hown (hts _ wd6_2) dL_ifs_17 ?_
      exact W.widen (Nat.le_of_ble_eq_true rfl) (Nat.le_of_ble_eq_true rfl) (wr_i q (by rw [an_k hj (by decide)]; rfl) (by exact hI) hP hS hx hb hr dL_ifs_19 hlk)
set_option maxHeartbeats 4000000 in
set_option maxRecDepth 100000 in
theorem c_L_doScript (l : Launch) (hfl : l.stackTraces = false) (g : va_G) (cy : Nat → ClassId) (x a tr s0 s1 : Nat → Nat) (pa : Nat → Nat → Nat) (sz : Nat) (bd : Nat) (q : Sc) (σ : Nat → Nat) (Hh : Nat → Nat → Nat) (n : Nat) (K : Nat → Nat → Nat) (fl : Nat → Bool) (tx : Nat → Nat) (ln : Nat) (vn : Int32) (sc : Int64) (hI : fI bd q σ Hh n K fl tx ln) (hbd : bd + 297 ≤ 100000) : Met l yL_doScript (Cond.codeWith yL_doScript cL_doScript 5 (some .int) [(0, 6, 7, 16)] :: wsL_law) ({ frames := 7, cells := 1, slots := 6, locals := 177 } : Room) (va_Pc [.ref (x 0), .int vn, .long sc] (pr2 g cy (fQ cy x a tr s0 s1 pa q σ n fl tx ln) sz)) (wr_Q (fun _ : Sc => some (.int (an (fRun vn sc) (nI (rnI sc vn.toNatClampNeg vn.toNatClampNeg σ))))) (fun u => fI bd u σ Hh n K fl tx ln) (fun u => fQ cy x a tr s0 s1 pa u σ n fl tx ln) g (va_A (fQ cy x a tr s0 s1 pa q σ n fl tx ln) sz)) 1 6 (va_A (fQ cy x a tr s0 s1 pa q σ n fl tx ln) sz) := by
  refine mt_h (cc := cL_doScript) (maxL := 5) (ret := some .int) (by decide +kernel) (Nat.le_of_ble_eq_true rfl) ?_
  intro pX eX s mX below meth cX ls A hx hb hr hml hown hts hlk htb hsz hAe hA hP hD hK hX hY hl
  subst hsz
  rw [← hAe]
  clear hAe
  have hl : lv_has ls 5 [(0, .ref (x 0)), (1, .int vn), (2, .long sc)] := hl
  have hS : va_S A s.heap s.heap [] := va_S.rf
  refine lv_aload_n hx hb dL_doScript_0 rfl (lv_at hl 0 rfl) ?_
  refine lv_iload_n hx hb dL_doScript_1 rfl (lv_at hl 1 rfl) ?_
  refine lv_lload_n hx hb dL_doScript_2 rfl (lv_at hl 2 rfl) ?_
  refine tr_call (pre := []) (wc := fQ cy x a tr s0 s1 pa q σ n fl tx ln) (k := fRun vn sc) (vx_runV (As := [.int vn, .long sc]) (rest := []) ⟨hx, hb, hml, hown, hts⟩ (c_X7_runScript l hfl g cy x a tr s0 s1 pa s.heap.size bd q σ Hh n K fl tx ln vn sc hI hbd) ⟨cB 2 hts wd27_4 wd1_2 wd27_1 rfl rfl (by decide +kernel) ⟨Nat.le_of_ble_eq_true rfl, Nat.le_of_ble_eq_true rfl⟩, hts _ wd27_2, hts _ wd27_3⟩ (pv2S (pre := []) hK hP hD hS hA hX hY 5 rfl rfl) rfl rfl hl.1 rfl (lv_room (Nat.le_of_ble_eq_true rfl)) dL_doScript_3 ⟨Nat.le_of_ble_eq_true rfl, Nat.le_of_ble_eq_true rfl⟩) hP hD hS hA (fun _ => fQ_ad) (fun q9 H locs hq9 hP hD hS => ?_) (fun hk q8 ce H locs hce hcv hcl hP hS => ?_)
  · obtain ⟨hfx, hI9⟩ := hq9
    have hP : va_P g vwCl ((fQ cy x a tr s0 s1 pa q9 σ n fl tx ln)) H := hP
    have hD : va_D A ((fQ cy x a tr s0 s1 pa q9 σ n fl tx ln)) := hD
    show W _ _ _ _ _ _ _ _ _ _ _ _ _ _ _ (F0 mX 6 ls [.int (nI (rnI sc vn.toNatClampNeg vn.toNatClampNeg σ))])
    exact W.widen (Nat.le_of_ble_eq_true rfl) (Nat.le_of_ble_eq_true rfl) (wr_i q9 (by rw [an_0 hfx]) (by exact hI9) hP hS hx hb hr dL_doScript_6 hlk)
  · have hfc : fRun vn sc = 0 ∨ fRun vn sc = 2 := by unfold fRun; (repeat' split) <;> simp
    rcases hfc with hj | hj
    · exact absurd hj hk
    · rw [hj] at hcl
      refine vx_catch (name := exN 2) (E := exN 2) hown [] ⟨0, 6, 7, 16⟩ [] (by rw [htb]; rfl) (fun z hz => absurd hz List.not_mem_nil) rfl (by decide) (hts _ wd5_22) (va_Nw.use rfl (hY.1 2 (by decide) (by decide))) hce hcv hcl ?_
      show W _ _ _ _ _ _ _ _ _ _ _ _ _ _ _ (F0 mX 7 ls [.ref q8])
      refine lv_astore (lv' := [(4, .ref q8), (0, .ref (x 0)), (1, .int vn), (2, .long sc)]) hx hb dL_doScript_7 hl (by decide) rfl (fun ls hl => ?_)
      refine lv_ldc hx hb hown (hts _ wd6_1) dL_doScript_9 ?_
      exact W.widen (Nat.le_of_ble_eq_true rfl) (Nat.le_of_ble_eq_true rfl) (wr_i q (by rw [an_k hj (by decide)]; rfl) (by exact hI) hP hS hx hb hr dL_doScript_11 hlk)
set_option maxHeartbeats 4000000 in
set_option maxRecDepth 100000 in
theorem c_L_doSimulate (l : Launch) (hfl : l.stackTraces = false) (g : va_G) (cy : Nat → ClassId) (x a tr s0 s1 : Nat → Nat) (pa : Nat → Nat → Nat) (sz : Nat) (bd : Nat) (q : Sc) (σ : Nat → Nat) (Hh : Nat → Nat → Nat) (n : Nat) (K : Nat → Nat → Nat) (fl : Nat → Bool) (tx : Nat → Nat) (ln : Nat) (sd : Int64) (vm : Int32) (hI : fI bd q σ Hh n K fl tx ln) (hbd : bd + 5940 ≤ 100000) : Met l yL_doSimulate (Cond.codeWith yL_doSimulate cL_doSimulate 5 (some .int) [(0, 6, 7, 16)] :: wsL_law) ({ frames := 7, cells := 1, slots := 6, locals := 170 } : Room) (va_Pc [.ref (x 0), .long sd, .int vm] (pr2 g cy (fQ cy x a tr s0 s1 pa q σ n fl tx ln) sz)) (wr_Q (fun _ : Sc => some (.int (an (fSim vm) (simA σ (siS sd σ vm.toNatClampNeg))))) (fun u => fI bd u σ Hh n K fl tx ln) (fun u => fQ cy x a tr s0 s1 pa u σ n fl tx ln) g (va_A (fQ cy x a tr s0 s1 pa q σ n fl tx ln) sz)) 1 6 (va_A (fQ cy x a tr s0 s1 pa q σ n fl tx ln) sz) := by
  refine mt_h (cc := cL_doSimulate) (maxL := 5) (ret := some .int) (by decide +kernel) (Nat.le_of_ble_eq_true rfl) ?_
  intro pX eX s mX below meth cX ls A hx hb hr hml hown hts hlk htb hsz hAe hA hP hD hK hX hY hl
  subst hsz
  rw [← hAe]
  clear hAe
  have hl : lv_has ls 5 [(0, .ref (x 0)), (1, .long sd), (3, .int vm)] := hl
  have hS : va_S A s.heap s.heap [] := va_S.rf
  refine lv_aload_n hx hb dL_doSimulate_0 rfl (lv_at hl 0 rfl) ?_
  refine lv_lload_n hx hb dL_doSimulate_1 rfl (lv_at hl 1 rfl) ?_
  refine lv_iload_n hx hb dL_doSimulate_2 rfl (lv_at hl 2 rfl) ?_
  refine tr_call (pre := []) (wc := fQ cy x a tr s0 s1 pa q σ n fl tx ln) (k := fSim vm) (vx_runV (As := [.long sd, .int vm]) (rest := []) ⟨hx, hb, hml, hown, hts⟩ (c_X7_simulate l hfl g cy x a tr s0 s1 pa s.heap.size bd q σ Hh n K fl tx ln sd vm hI hbd) ⟨cB 2 hts wd28_4 wd1_2 wd28_1 rfl rfl (by decide +kernel) ⟨Nat.le_of_ble_eq_true rfl, Nat.le_of_ble_eq_true rfl⟩, hts _ wd28_2, hts _ wd28_3⟩ (pv2S (pre := []) hK hP hD hS hA hX hY 5 rfl rfl) rfl rfl hl.1 rfl (lv_room (Nat.le_of_ble_eq_true rfl)) dL_doSimulate_3 ⟨Nat.le_of_ble_eq_true rfl, Nat.le_of_ble_eq_true rfl⟩) hP hD hS hA (fun _ => fQ_ad) (fun q9 H locs hq9 hP hD hS => ?_) (fun hk q8 ce H locs hce hcv hcl hP hS => ?_)
  · obtain ⟨hfx, hI9⟩ := hq9
    have hP : va_P g vwCl ((fQ cy x a tr s0 s1 pa q9 σ n fl tx ln)) H := hP
    have hD : va_D A ((fQ cy x a tr s0 s1 pa q9 σ n fl tx ln)) := hD
    show W _ _ _ _ _ _ _ _ _ _ _ _ _ _ _ (F0 mX 6 ls [.int (simA σ (siS sd σ vm.toNatClampNeg))])
    exact W.widen (Nat.le_of_ble_eq_true rfl) (Nat.le_of_ble_eq_true rfl) (wr_i q9 (by rw [an_0 hfx]) (by exact hI9) hP hS hx hb hr dL_doSimulate_6 hlk)
  · have hfc : fSim vm = 0 ∨ fSim vm = 2 := by unfold fSim; (repeat' split) <;> simp
    rcases hfc with hj | hj
    · exact absurd hj hk
    · rw [hj] at hcl
      refine vx_catch (name := exN 2) (E := exN 2) hown [] ⟨0, 6, 7, 16⟩ [] (by rw [htb]; rfl) (fun z hz => absurd hz List.not_mem_nil) rfl (by decide) (hts _ wd5_22) (va_Nw.use rfl (hY.1 2 (by decide) (by decide))) hce hcv hcl ?_
      show W _ _ _ _ _ _ _ _ _ _ _ _ _ _ _ (F0 mX 7 ls [.ref q8])
      refine lv_astore (lv' := [(4, .ref q8), (0, .ref (x 0)), (1, .long sd), (3, .int vm)]) hx hb dL_doSimulate_7 hl (by decide) rfl (fun ls hl => ?_)
      refine lv_ldc hx hb hown (hts _ wd6_1) dL_doSimulate_9 ?_
      exact W.widen (Nat.le_of_ble_eq_true rfl) (Nat.le_of_ble_eq_true rfl) (wr_i q (by rw [an_k hj (by decide)]; rfl) (by exact hI) hP hS hx hb hr dL_doSimulate_11 hlk)
set_option maxHeartbeats 4000000 in
set_option maxRecDepth 100000 in
theorem c_L_tryAppend (l : Launch) (hfl : l.stackTraces = false) (g : va_G) (cy : Nat → ClassId) (x a tr s0 s1 : Nat → Nat) (pa : Nat → Nat → Nat) (sz : Nat) (bd : Nat) (q : Sc) (σ : Nat → Nat) (Hh : Nat → Nat → Nat) (n : Nat) (K : Nat → Nat → Nat) (fl : Nat → Bool) (tx : Nat → Nat) (ln : Nat) (vc : Int32) (hI : fI bd q σ Hh n K fl tx ln) : Met l yL_tryAppend (Cond.codeWith yL_tryAppend cL_tryAppend 3 (some .int) [(0, 5, 6, 16), (0, 5, 10, 19)] :: wsL_law) ({ frames := 7, cells := 1, slots := 6, locals := 103 } : Room) (va_Pc [.ref (x 0), .int vc] (pr2 g cy (fQ cy x a tr s0 s1 pa q σ n fl tx ln) sz)) (wr_Q (fun _ : Sc => some (.int (an (fApp vc ln) (nI (ln + 1))))) (fun u => fI bd u σ Hh n K fl (if fApp vc ln = 0 then up tx ln vc.toNatClampNeg else tx) (if fApp vc ln = 0 then ln + 1 else ln)) (fun u => fQ cy x a tr s0 s1 pa u σ n fl (if fApp vc ln = 0 then up tx ln vc.toNatClampNeg else tx) (if fApp vc ln = 0 then ln + 1 else ln)) g (va_A (fQ cy x a tr s0 s1 pa q σ n fl tx ln) sz)) 1 6 (va_A (fQ cy x a tr s0 s1 pa q σ n fl tx ln) sz) := by
  refine mt_h (cc := cL_tryAppend) (maxL := 3) (ret := some .int) (by decide +kernel) (Nat.le_of_ble_eq_true rfl) ?_
  intro pX eX s mX below meth cX ls A hx hb hr hml hown hts hlk htb hsz hAe hA hP hD hK hX hY hl
  subst hsz
  rw [← hAe]
  clear hAe
  have hl : lv_has ls 3 [(0, .ref (x 0)), (1, .int vc)] := hl
  have hS : va_S A s.heap s.heap [] := va_S.rf
  refine lv_aload_n hx hb dL_tryAppend_0 rfl (lv_at hl 0 rfl) ?_
  refine lv_iload_n hx hb dL_tryAppend_1 rfl (lv_at hl 1 rfl) ?_
  refine tr_call (pre := []) (wc := fQ cy x a tr s0 s1 pa q σ n fl tx ln) (k := fApp vc ln) (vx_runV (As := [.int vc]) (rest := []) ⟨hx, hb, hml, hown, hts⟩ (c_X7_append l hfl g cy x a tr s0 s1 pa s.heap.size bd q σ Hh n K fl tx ln vc hI ) ⟨cB 1 hts wd9_18 wd1_2 wd9_15 rfl rfl (by decide +kernel) ⟨Nat.le_of_ble_eq_true rfl, Nat.le_of_ble_eq_true rfl⟩, hts _ wd9_16, hts _ wd9_17⟩ (pv2S (pre := []) hK hP hD hS hA hX hY 5 rfl rfl) rfl rfl hl.1 rfl (lv_room (Nat.le_of_ble_eq_true rfl)) dL_tryAppend_2 ⟨Nat.le_of_ble_eq_true rfl, Nat.le_of_ble_eq_true rfl⟩) hP hD hS hA (fun _ => fQ_ad) (fun q9 H locs hq9 hP hD hS => ?_) (fun hk q8 ce H locs hce hcv hcl hP hS => ?_)
  · obtain ⟨hfx, hI9⟩ := hq9
    have hP : va_P g vwCl ((fQ cy x a tr s0 s1 pa q9 σ n fl (up tx ln vc.toNatClampNeg) (ln + 1))) H := hP
    have hD : va_D A ((fQ cy x a tr s0 s1 pa q9 σ n fl (up tx ln vc.toNatClampNeg) (ln + 1))) := hD
    show W _ _ _ _ _ _ _ _ _ _ _ _ _ _ _ (F0 mX 5 ls [.int (nI (ln + 1))])
    exact W.widen (Nat.le_of_ble_eq_true rfl) (Nat.le_of_ble_eq_true rfl) (wr_i q9 (by rw [an_0 hfx]) (by simp only [if_pos hfx]; exact hI9) (by simp only [if_pos hfx]; exact hP) hS hx hb hr dL_tryAppend_5 hlk)
  · have hfc : fApp vc ln = 0 ∨ fApp vc ln = 2 ∨ fApp vc ln = 3 := by unfold fApp; (repeat' split) <;> simp
    rcases hfc with hj | hj | hj
    · exact absurd hj hk
    · rw [hj] at hcl
      refine vx_catch (name := exN 2) (E := exN 2) hown [] ⟨0, 5, 6, 16⟩ [⟨0, 5, 10, 19⟩] (by rw [htb]; rfl) (fun z hz => absurd hz List.not_mem_nil) rfl (by decide) (hts _ wd5_22) (va_Nw.use rfl (hY.1 2 (by decide) (by decide))) hce hcv hcl ?_
      show W _ _ _ _ _ _ _ _ _ _ _ _ _ _ _ (F0 mX 6 ls [.ref q8])
      refine lv_astore_n (lv' := [(2, .ref q8), (0, .ref (x 0)), (1, .int vc)]) hx hb dL_tryAppend_6 rfl hl (by decide) rfl (fun ls hl => ?_)
      refine lv_ldc hx hb hown (hts _ wd6_1) dL_tryAppend_7 ?_
      exact W.widen (Nat.le_of_ble_eq_true rfl) (Nat.le_of_ble_eq_true rfl) (wr_i q (by rw [an_k hj (by decide)]; rfl) (by simp only [if_neg hk]; exact hI) (by simp only [if_neg hk]; exact hP) hS hx hb hr dL_tryAppend_9 hlk)
    · rw [hj] at hcl
      refine vx_catch (name := exN 3) (E := exN 3) hown [⟨0, 5, 6, 16⟩] ⟨0, 5, 10, 19⟩ [] (by rw [htb]; rfl) (fun z hz => by rcases List.mem_cons.mp hz with rfl | hz; exact Or.inr ⟨by decide, exN 2, hts _ wd5_22, hY.2.1 3 2 (by decide) (by decide) (by decide) (by decide) (by decide)⟩; exact absurd hz List.not_mem_nil) rfl (by decide) (hts _ wd5_23) (va_Nw.use rfl (hY.1 3 (by decide) (by decide))) hce hcv hcl ?_
      show W _ _ _ _ _ _ _ _ _ _ _ _ _ _ _ (F0 mX 10 ls [.ref q8])
      refine lv_astore_n (lv' := [(2, .ref q8), (0, .ref (x 0)), (1, .int vc)]) hx hb dL_tryAppend_10 rfl hl (by decide) rfl (fun ls hl => ?_)
      refine lv_ldc hx hb hown (hts _ wd6_2) dL_tryAppend_11 ?_
      exact W.widen (Nat.le_of_ble_eq_true rfl) (Nat.le_of_ble_eq_true rfl) (wr_i q (by rw [an_k hj (by decide)]; rfl) (by simp only [if_neg hk]; exact hI) (by simp only [if_neg hk]; exact hP) hS hx hb hr dL_tryAppend_13 hlk)
set_option maxHeartbeats 4000000 in
set_option maxRecDepth 100000 in
theorem c_L_tryAbout (l : Launch) (hfl : l.stackTraces = false) (g : va_G) (cy : Nat → ClassId) (x a tr s0 s1 : Nat → Nat) (pa : Nat → Nat → Nat) (sz : Nat) (bd : Nat) (q : Sc) (σ : Nat → Nat) (Hh : Nat → Nat → Nat) (n : Nat) (K : Nat → Nat → Nat) (fl : Nat → Bool) (tx : Nat → Nat) (ln : Nat) (vw : Int32) (hI : fI bd q σ Hh n K fl tx ln) : Met l yL_tryAbout (Cond.codeWith yL_tryAbout cL_tryAbout 3 (some .int) [(0, 5, 6, 16)] :: wsL_law) ({ frames := 7, cells := 1, slots := 6, locals := 140 } : Room) (va_Pc [.ref (x 0), .int vw] (pr2 g cy (fQ cy x a tr s0 s1 pa q σ n fl tx ln) sz)) (wr_Q (fun _ : Sc => some (.int (an (fAbo vw) (nI (nbd σ vw.toNatClampNeg))))) (fun u => fI bd u σ Hh n K fl tx ln) (fun u => fQ cy x a tr s0 s1 pa u σ n fl tx ln) g (va_A (fQ cy x a tr s0 s1 pa q σ n fl tx ln) sz)) 1 6 (va_A (fQ cy x a tr s0 s1 pa q σ n fl tx ln) sz) := by
  refine mt_h (cc := cL_tryAbout) (maxL := 3) (ret := some .int) (by decide +kernel) (Nat.le_of_ble_eq_true rfl) ?_
  intro pX eX s mX below meth cX ls A hx hb hr hml hown hts hlk htb hsz hAe hA hP hD hK hX hY hl
  subst hsz
  rw [← hAe]
  clear hAe
  have hl : lv_has ls 3 [(0, .ref (x 0)), (1, .int vw)] := hl
  have hS : va_S A s.heap s.heap [] := va_S.rf
  refine lv_aload_n hx hb dL_tryAbout_0 rfl (lv_at hl 0 rfl) ?_
  refine lv_iload_n hx hb dL_tryAbout_1 rfl (lv_at hl 1 rfl) ?_
  refine tr_call (pre := []) (wc := fQ cy x a tr s0 s1 pa q σ n fl tx ln) (k := fAbo vw) (vx_runV (As := [.int vw]) (rest := []) ⟨hx, hb, hml, hown, hts⟩ (c_X7_about l hfl g cy x a tr s0 s1 pa s.heap.size bd q σ Hh n K fl tx ln vw hI ) ⟨cB 1 hts wd18_8 wd1_2 wd18_5 rfl rfl (by decide +kernel) ⟨Nat.le_of_ble_eq_true rfl, Nat.le_of_ble_eq_true rfl⟩, hts _ wd18_6, hts _ wd18_7⟩ (pv2S (pre := []) hK hP hD hS hA hX hY 5 rfl rfl) rfl rfl hl.1 rfl (lv_room (Nat.le_of_ble_eq_true rfl)) dL_tryAbout_2 ⟨Nat.le_of_ble_eq_true rfl, Nat.le_of_ble_eq_true rfl⟩) hP hD hS hA (fun _ => fQ_ad) (fun q9 H locs hq9 hP hD hS => ?_) (fun hk q8 ce H locs hce hcv hcl hP hS => ?_)
  · obtain ⟨hfx, hI9⟩ := hq9
    have hP : va_P g vwCl ((fQ cy x a tr s0 s1 pa q9 σ n fl tx ln)) H := hP
    have hD : va_D A ((fQ cy x a tr s0 s1 pa q9 σ n fl tx ln)) := hD
    show W _ _ _ _ _ _ _ _ _ _ _ _ _ _ _ (F0 mX 5 ls [.int (nI (nbd σ vw.toNatClampNeg))])
    exact W.widen (Nat.le_of_ble_eq_true rfl) (Nat.le_of_ble_eq_true rfl) (wr_i q9 (by rw [an_0 hfx]) (by exact hI9) hP hS hx hb hr dL_tryAbout_5 hlk)
  · have hfc : fAbo vw = 0 ∨ fAbo vw = 2 := by unfold fAbo; (repeat' split) <;> simp
    rcases hfc with hj | hj
    · exact absurd hj hk
    · rw [hj] at hcl
      refine vx_catch (name := exN 2) (E := exN 2) hown [] ⟨0, 5, 6, 16⟩ [] (by rw [htb]; rfl) (fun z hz => absurd hz List.not_mem_nil) rfl (by decide) (hts _ wd5_22) (va_Nw.use rfl (hY.1 2 (by decide) (by decide))) hce hcv hcl ?_
      show W _ _ _ _ _ _ _ _ _ _ _ _ _ _ _ (F0 mX 6 ls [.ref q8])
      refine lv_astore_n (lv' := [(2, .ref q8), (0, .ref (x 0)), (1, .int vw)]) hx hb dL_tryAbout_6 rfl hl (by decide) rfl (fun ls hl => ?_)
      refine lv_ldc hx hb hown (hts _ wd6_1) dL_tryAbout_7 ?_
      exact W.widen (Nat.le_of_ble_eq_true rfl) (Nat.le_of_ble_eq_true rfl) (wr_i q (by rw [an_k hj (by decide)]; rfl) (by exact hI) hP hS hx hb hr dL_tryAbout_9 hlk)
set_option maxHeartbeats 4000000 in
set_option maxRecDepth 100000 in
theorem c_L_tryDog (l : Launch) (hfl : l.stackTraces = false) (g : va_G) (cy : Nat → ClassId) (x a tr s0 s1 : Nat → Nat) (pa : Nat → Nat → Nat) (sz : Nat) (bd : Nat) (q : Sc) (σ : Nat → Nat) (Hh : Nat → Nat → Nat) (n : Nat) (K : Nat → Nat → Nat) (fl : Nat → Bool) (tx : Nat → Nat) (ln : Nat) (vd : Int32) (vw : Int32) (hI : fI bd q σ Hh n K fl tx ln) : Met l yL_tryDog (Cond.codeWith yL_tryDog cL_tryDog 4 (some .int) [(0, 6, 7, 13), (0, 6, 11, 16)] :: wsL_law) ({ frames := 7, cells := 1, slots := 6, locals := 141 } : Room) (va_Pc [.ref (x 0), .int vd, .int vw] (pr2 g cy (fQ cy x a tr s0 s1 pa q σ n fl tx ln) sz)) (wr_Q (fun _ : Sc => some (.int (an (fDog σ vd vw) (nI (ndg σ vd.toNatClampNeg vw.toNatClampNeg))))) (fun u => fI bd u σ Hh n K fl tx ln) (fun u => fQ cy x a tr s0 s1 pa u σ n fl tx ln) g (va_A (fQ cy x a tr s0 s1 pa q σ n fl tx ln) sz)) 1 6 (va_A (fQ cy x a tr s0 s1 pa q σ n fl tx ln) sz) := by
  refine mt_h (cc := cL_tryDog) (maxL := 4) (ret := some .int) (by decide +kernel) (Nat.le_of_ble_eq_true rfl) ?_
  intro pX eX s mX below meth cX ls A hx hb hr hml hown hts hlk htb hsz hAe hA hP hD hK hX hY hl
  subst hsz
  rw [← hAe]
  clear hAe
  have hl : lv_has ls 4 [(0, .ref (x 0)), (1, .int vd), (2, .int vw)] := hl
  have hS : va_S A s.heap s.heap [] := va_S.rf
  refine lv_aload_n hx hb dL_tryDog_0 rfl (lv_at hl 0 rfl) ?_
  refine lv_iload_n hx hb dL_tryDog_1 rfl (lv_at hl 1 rfl) ?_
  refine lv_iload_n hx hb dL_tryDog_2 rfl (lv_at hl 2 rfl) ?_
  refine tr_call (pre := []) (wc := fQ cy x a tr s0 s1 pa q σ n fl tx ln) (k := fDog σ vd vw) (vx_runV (As := [.int vd, .int vw]) (rest := []) ⟨hx, hb, hml, hown, hts⟩ (c_X7_dogOf l hfl g cy x a tr s0 s1 pa s.heap.size bd q σ Hh n K fl tx ln vd vw hI ) ⟨cB 2 hts wd19_7 wd1_2 wd19_4 rfl rfl (by decide +kernel) ⟨Nat.le_of_ble_eq_true rfl, Nat.le_of_ble_eq_true rfl⟩, hts _ wd19_5, hts _ wd19_6⟩ (pv2S (pre := []) hK hP hD hS hA hX hY 5 rfl rfl) rfl rfl hl.1 rfl (lv_room (Nat.le_of_ble_eq_true rfl)) dL_tryDog_3 ⟨Nat.le_of_ble_eq_true rfl, Nat.le_of_ble_eq_true rfl⟩) hP hD hS hA (fun _ => fQ_ad) (fun q9 H locs hq9 hP hD hS => ?_) (fun hk q8 ce H locs hce hcv hcl hP hS => ?_)
  · obtain ⟨hfx, hI9⟩ := hq9
    have hP : va_P g vwCl ((fQ cy x a tr s0 s1 pa q9 σ n fl tx ln)) H := hP
    have hD : va_D A ((fQ cy x a tr s0 s1 pa q9 σ n fl tx ln)) := hD
    show W _ _ _ _ _ _ _ _ _ _ _ _ _ _ _ (F0 mX 6 ls [.int (nI (ndg σ vd.toNatClampNeg vw.toNatClampNeg))])
    exact W.widen (Nat.le_of_ble_eq_true rfl) (Nat.le_of_ble_eq_true rfl) (wr_i q9 (by rw [an_0 hfx]) (by exact hI9) hP hS hx hb hr dL_tryDog_6 hlk)
  · have hfc : fDog σ vd vw = 0 ∨ fDog σ vd vw = 1 ∨ fDog σ vd vw = 2 := by unfold fDog; (repeat' split) <;> simp
    rcases hfc with hj | hj | hj
    · exact absurd hj hk
    · rw [hj] at hcl
      refine vx_catch (name := exN 1) (E := exN 1) hown [] ⟨0, 6, 7, 13⟩ [⟨0, 6, 11, 16⟩] (by rw [htb]; rfl) (fun z hz => absurd hz List.not_mem_nil) rfl (by decide) (hts _ wd5_21) (va_Nw.use rfl (hY.1 1 (by decide) (by decide))) hce hcv hcl ?_
      show W _ _ _ _ _ _ _ _ _ _ _ _ _ _ _ (F0 mX 7 ls [.ref q8])
      refine lv_astore_n (lv' := [(3, .ref q8), (0, .ref (x 0)), (1, .int vd), (2, .int vw)]) hx hb dL_tryDog_7 rfl hl (by decide) rfl (fun ls hl => ?_)
      refine lv_ldc hx hb hown (hts _ wd6_0) dL_tryDog_8 ?_
      exact W.widen (Nat.le_of_ble_eq_true rfl) (Nat.le_of_ble_eq_true rfl) (wr_i q (by rw [an_k hj (by decide)]; rfl) (by exact hI) hP hS hx hb hr dL_tryDog_10 hlk)
    · rw [hj] at hcl
      refine vx_catch (name := exN 2) (E := exN 2) hown [⟨0, 6, 7, 13⟩] ⟨0, 6, 11, 16⟩ [] (by rw [htb]; rfl) (fun z hz => by rcases List.mem_cons.mp hz with rfl | hz; exact Or.inr ⟨by decide, exN 1, hts _ wd5_21, hY.2.1 2 1 (by decide) (by decide) (by decide) (by decide) (by decide)⟩; exact absurd hz List.not_mem_nil) rfl (by decide) (hts _ wd5_22) (va_Nw.use rfl (hY.1 2 (by decide) (by decide))) hce hcv hcl ?_
      show W _ _ _ _ _ _ _ _ _ _ _ _ _ _ _ (F0 mX 11 ls [.ref q8])
      refine lv_astore_n (lv' := [(3, .ref q8), (0, .ref (x 0)), (1, .int vd), (2, .int vw)]) hx hb dL_tryDog_11 rfl hl (by decide) rfl (fun ls hl => ?_)
      refine lv_ldc hx hb hown (hts _ wd6_1) dL_tryDog_12 ?_
      exact W.widen (Nat.le_of_ble_eq_true rfl) (Nat.le_of_ble_eq_true rfl) (wr_i q (by rw [an_k hj (by decide)]; rfl) (by exact hI) hP hS hx hb hr dL_tryDog_14 hlk)
set_option maxHeartbeats 4000000 in
set_option maxRecDepth 100000 in
theorem c_L_trySeen (l : Launch) (hfl : l.stackTraces = false) (g : va_G) (cy : Nat → ClassId) (x a tr s0 s1 : Nat → Nat) (pa : Nat → Nat → Nat) (sz : Nat) (bd : Nat) (q : Sc) (σ : Nat → Nat) (Hh : Nat → Nat → Nat) (n : Nat) (K : Nat → Nat → Nat) (fl : Nat → Bool) (tx : Nat → Nat) (ln : Nat) (vs : Int32) (vw : Int32) (hI : fI bd q σ Hh n K fl tx ln) : Met l yL_trySeen (Cond.codeWith yL_trySeen cL_trySeen 4 (some .int) [(0, 6, 7, 13), (0, 6, 11, 16)] :: wsL_law) ({ frames := 7, cells := 1, slots := 6, locals := 121 } : Room) (va_Pc [.ref (x 0), .int vs, .int vw] (pr2 g cy (fQ cy x a tr s0 s1 pa q σ n fl tx ln) sz)) (wr_Q (fun _ : Sc => some (.int (an (fSig σ vs vw) (nI (nsg σ vs.toNatClampNeg vw.toNatClampNeg))))) (fun u => fI bd u σ Hh n K fl tx ln) (fun u => fQ cy x a tr s0 s1 pa u σ n fl tx ln) g (va_A (fQ cy x a tr s0 s1 pa q σ n fl tx ln) sz)) 1 6 (va_A (fQ cy x a tr s0 s1 pa q σ n fl tx ln) sz) := by
  refine mt_h (cc := cL_trySeen) (maxL := 4) (ret := some .int) (by decide +kernel) (Nat.le_of_ble_eq_true rfl) ?_
  intro pX eX s mX below meth cX ls A hx hb hr hml hown hts hlk htb hsz hAe hA hP hD hK hX hY hl
  subst hsz
  rw [← hAe]
  clear hAe
  have hl : lv_has ls 4 [(0, .ref (x 0)), (1, .int vs), (2, .int vw)] := hl
  have hS : va_S A s.heap s.heap [] := va_S.rf
  refine lv_aload_n hx hb dL_trySeen_0 rfl (lv_at hl 0 rfl) ?_
  refine lv_iload_n hx hb dL_trySeen_1 rfl (lv_at hl 1 rfl) ?_
  refine lv_iload_n hx hb dL_trySeen_2 rfl (lv_at hl 2 rfl) ?_
  refine tr_call (pre := []) (wc := fQ cy x a tr s0 s1 pa q σ n fl tx ln) (k := fSig σ vs vw) (vx_runV (As := [.int vs, .int vw]) (rest := []) ⟨hx, hb, hml, hown, hts⟩ (c_X7_sightingOf l hfl g cy x a tr s0 s1 pa s.heap.size bd q σ Hh n K fl tx ln vs vw hI ) ⟨cB 2 hts wd19_23 wd1_2 wd19_20 rfl rfl (by decide +kernel) ⟨Nat.le_of_ble_eq_true rfl, Nat.le_of_ble_eq_true rfl⟩, hts _ wd19_21, hts _ wd19_22⟩ (pv2S (pre := []) hK hP hD hS hA hX hY 5 rfl rfl) rfl rfl hl.1 rfl (lv_room (Nat.le_of_ble_eq_true rfl)) dL_trySeen_3 ⟨Nat.le_of_ble_eq_true rfl, Nat.le_of_ble_eq_true rfl⟩) hP hD hS hA (fun _ => fQ_ad) (fun q9 H locs hq9 hP hD hS => ?_) (fun hk q8 ce H locs hce hcv hcl hP hS => ?_)
  · obtain ⟨hfx, hI9⟩ := hq9
    have hP : va_P g vwCl ((fQ cy x a tr s0 s1 pa q9 σ n fl tx ln)) H := hP
    have hD : va_D A ((fQ cy x a tr s0 s1 pa q9 σ n fl tx ln)) := hD
    show W _ _ _ _ _ _ _ _ _ _ _ _ _ _ _ (F0 mX 6 ls [.int (nI (nsg σ vs.toNatClampNeg vw.toNatClampNeg))])
    exact W.widen (Nat.le_of_ble_eq_true rfl) (Nat.le_of_ble_eq_true rfl) (wr_i q9 (by rw [an_0 hfx]) (by exact hI9) hP hS hx hb hr dL_trySeen_6 hlk)
  · have hfc : fSig σ vs vw = 0 ∨ fSig σ vs vw = 1 ∨ fSig σ vs vw = 2 := by unfold fSig; (repeat' split) <;> simp
    rcases hfc with hj | hj | hj
    · exact absurd hj hk
    · rw [hj] at hcl
      refine vx_catch (name := exN 1) (E := exN 1) hown [] ⟨0, 6, 7, 13⟩ [⟨0, 6, 11, 16⟩] (by rw [htb]; rfl) (fun z hz => absurd hz List.not_mem_nil) rfl (by decide) (hts _ wd5_21) (va_Nw.use rfl (hY.1 1 (by decide) (by decide))) hce hcv hcl ?_
      show W _ _ _ _ _ _ _ _ _ _ _ _ _ _ _ (F0 mX 7 ls [.ref q8])
      refine lv_astore_n (lv' := [(3, .ref q8), (0, .ref (x 0)), (1, .int vs), (2, .int vw)]) hx hb dL_trySeen_7 rfl hl (by decide) rfl (fun ls hl => ?_)
      refine lv_ldc hx hb hown (hts _ wd6_0) dL_trySeen_8 ?_
      exact W.widen (Nat.le_of_ble_eq_true rfl) (Nat.le_of_ble_eq_true rfl) (wr_i q (by rw [an_k hj (by decide)]; rfl) (by exact hI) hP hS hx hb hr dL_trySeen_10 hlk)
    · rw [hj] at hcl
      refine vx_catch (name := exN 2) (E := exN 2) hown [⟨0, 6, 7, 13⟩] ⟨0, 6, 11, 16⟩ [] (by rw [htb]; rfl) (fun z hz => by rcases List.mem_cons.mp hz with rfl | hz; exact Or.inr ⟨by decide, exN 1, hts _ wd5_21, hY.2.1 2 1 (by decide) (by decide) (by decide) (by decide) (by decide)⟩; exact absurd hz List.not_mem_nil) rfl (by decide) (hts _ wd5_22) (va_Nw.use rfl (hY.1 2 (by decide) (by decide))) hce hcv hcl ?_
      show W _ _ _ _ _ _ _ _ _ _ _ _ _ _ _ (F0 mX 11 ls [.ref q8])
      refine lv_astore_n (lv' := [(3, .ref q8), (0, .ref (x 0)), (1, .int vs), (2, .int vw)]) hx hb dL_trySeen_11 rfl hl (by decide) rfl (fun ls hl => ?_)
      refine lv_ldc hx hb hown (hts _ wd6_1) dL_trySeen_12 ?_
      exact W.widen (Nat.le_of_ble_eq_true rfl) (Nat.le_of_ble_eq_true rfl) (wr_i q (by rw [an_k hj (by decide)]; rfl) (by exact hI) hP hS hx hb hr dL_trySeen_14 hlk)
set_option maxHeartbeats 4000000 in
set_option maxRecDepth 100000 in
theorem c_L_tryPurse (l : Launch) (hfl : l.stackTraces = false) (g : va_G) (cy : Nat → ClassId) (x a tr s0 s1 : Nat → Nat) (pa : Nat → Nat → Nat) (sz : Nat) (bd : Nat) (q : Sc) (σ : Nat → Nat) (Hh : Nat → Nat → Nat) (n : Nat) (K : Nat → Nat → Nat) (fl : Nat → Bool) (tx : Nat → Nat) (ln : Nat) (vf : Int32) (hI : fI bd q σ Hh n K fl tx ln) : Met l yL_tryPurse (Cond.codeWith yL_tryPurse cL_tryPurse 3 (some .int) [(0, 5, 6, 13)] :: wsL_law) ({ frames := 7, cells := 1, slots := 6, locals := 103 } : Room) (va_Pc [.ref (x 0), .int vf] (pr2 g cy (fQ cy x a tr s0 s1 pa q σ n fl tx ln) sz)) (wr_Q (fun _ : Sc => some (.int (an (fPur vf) (nI (σ (8 + vf.toNatClampNeg)))))) (fun u => fI bd u σ Hh n K fl tx ln) (fun u => fQ cy x a tr s0 s1 pa u σ n fl tx ln) g (va_A (fQ cy x a tr s0 s1 pa q σ n fl tx ln) sz)) 1 6 (va_A (fQ cy x a tr s0 s1 pa q σ n fl tx ln) sz) := by
  refine mt_h (cc := cL_tryPurse) (maxL := 3) (ret := some .int) (by decide +kernel) (Nat.le_of_ble_eq_true rfl) ?_
  intro pX eX s mX below meth cX ls A hx hb hr hml hown hts hlk htb hsz hAe hA hP hD hK hX hY hl
  subst hsz
  rw [← hAe]
  clear hAe
  have hl : lv_has ls 3 [(0, .ref (x 0)), (1, .int vf)] := hl
  have hS : va_S A s.heap s.heap [] := va_S.rf
  refine lv_aload_n hx hb dL_tryPurse_0 rfl (lv_at hl 0 rfl) ?_
  refine lv_iload_n hx hb dL_tryPurse_1 rfl (lv_at hl 1 rfl) ?_
  refine tr_call (pre := []) (wc := fQ cy x a tr s0 s1 pa q σ n fl tx ln) (k := fPur vf) (vx_runV (As := [.int vf]) (rest := []) ⟨hx, hb, hml, hown, hts⟩ (c_X7_purse l hfl g cy x a tr s0 s1 pa s.heap.size bd q σ Hh n K fl tx ln vf hI ) ⟨cB 1 hts wd20_10 wd1_2 wd20_7 rfl rfl (by decide +kernel) ⟨Nat.le_of_ble_eq_true rfl, Nat.le_of_ble_eq_true rfl⟩, hts _ wd20_8, hts _ wd20_9⟩ (pv2S (pre := []) hK hP hD hS hA hX hY 5 rfl rfl) rfl rfl hl.1 rfl (lv_room (Nat.le_of_ble_eq_true rfl)) dL_tryPurse_2 ⟨Nat.le_of_ble_eq_true rfl, Nat.le_of_ble_eq_true rfl⟩) hP hD hS hA (fun _ => fQ_ad) (fun q9 H locs hq9 hP hD hS => ?_) (fun hk q8 ce H locs hce hcv hcl hP hS => ?_)
  · obtain ⟨hfx, hI9⟩ := hq9
    have hP : va_P g vwCl ((fQ cy x a tr s0 s1 pa q9 σ n fl tx ln)) H := hP
    have hD : va_D A ((fQ cy x a tr s0 s1 pa q9 σ n fl tx ln)) := hD
    show W _ _ _ _ _ _ _ _ _ _ _ _ _ _ _ (F0 mX 5 ls [.int (nI (σ (8 + vf.toNatClampNeg)))])
    exact W.widen (Nat.le_of_ble_eq_true rfl) (Nat.le_of_ble_eq_true rfl) (wr_i q9 (by rw [an_0 hfx]) (by exact hI9) hP hS hx hb hr dL_tryPurse_5 hlk)
  · have hfc : fPur vf = 0 ∨ fPur vf = 1 := by unfold fPur; (repeat' split) <;> simp
    rcases hfc with hj | hj
    · exact absurd hj hk
    · rw [hj] at hcl
      refine vx_catch (name := exN 1) (E := exN 1) hown [] ⟨0, 5, 6, 13⟩ [] (by rw [htb]; rfl) (fun z hz => absurd hz List.not_mem_nil) rfl (by decide) (hts _ wd5_21) (va_Nw.use rfl (hY.1 1 (by decide) (by decide))) hce hcv hcl ?_
      show W _ _ _ _ _ _ _ _ _ _ _ _ _ _ _ (F0 mX 6 ls [.ref q8])
      refine lv_astore_n (lv' := [(2, .ref q8), (0, .ref (x 0)), (1, .int vf)]) hx hb dL_tryPurse_6 rfl hl (by decide) rfl (fun ls hl => ?_)
      refine lv_ldc hx hb hown (hts _ wd6_0) dL_tryPurse_7 ?_
      exact W.widen (Nat.le_of_ble_eq_true rfl) (Nat.le_of_ble_eq_true rfl) (wr_i q (by rw [an_k hj (by decide)]; rfl) (by exact hI) hP hS hx hb hr dL_tryPurse_9 hlk)
set_option maxHeartbeats 4000000 in
set_option maxRecDepth 100000 in
theorem c_L_tryApart (l : Launch) (hfl : l.stackTraces = false) (g : va_G) (cy : Nat → ClassId) (x a tr s0 s1 : Nat → Nat) (pa : Nat → Nat → Nat) (sz : Nat) (bd : Nat) (q : Sc) (σ : Nat → Nat) (Hh : Nat → Nat → Nat) (n : Nat) (K : Nat → Nat → Nat) (fl : Nat → Bool) (tx : Nat → Nat) (ln : Nat) (va : Int32) (vb : Int32) (vw : Int32) (hI : fI bd q σ Hh n K fl tx ln) : Met l yL_tryApart (Cond.codeWith yL_tryApart cL_tryApart 5 (some .int) [(0, 7, 8, 13), (0, 7, 13, 16)] :: wsL_law) ({ frames := 7, cells := 1, slots := 6, locals := 113 } : Room) (va_Pc [.ref (x 0), .int va, .int vb, .int vw] (pr2 g cy (fQ cy x a tr s0 s1 pa q σ n fl tx ln) sz)) (wr_Q (fun _ : Sc => some (.int (an (fApa va vb vw) (wv σ (12 * va.toNatClampNeg + vb.toNatClampNeg))))) (fun u => fI bd u σ Hh n K fl tx ln) (fun u => fQ cy x a tr s0 s1 pa u σ n fl tx ln) g (va_A (fQ cy x a tr s0 s1 pa q σ n fl tx ln) sz)) 1 6 (va_A (fQ cy x a tr s0 s1 pa q σ n fl tx ln) sz) := by
  refine mt_h (cc := cL_tryApart) (maxL := 5) (ret := some .int) (by decide +kernel) (Nat.le_of_ble_eq_true rfl) ?_
  intro pX eX s mX below meth cX ls A hx hb hr hml hown hts hlk htb hsz hAe hA hP hD hK hX hY hl
  subst hsz
  rw [← hAe]
  clear hAe
  have hl : lv_has ls 5 [(0, .ref (x 0)), (1, .int va), (2, .int vb), (3, .int vw)] := hl
  have hS : va_S A s.heap s.heap [] := va_S.rf
  refine lv_aload_n hx hb dL_tryApart_0 rfl (lv_at hl 0 rfl) ?_
  refine lv_iload_n hx hb dL_tryApart_1 rfl (lv_at hl 1 rfl) ?_
  refine lv_iload_n hx hb dL_tryApart_2 rfl (lv_at hl 2 rfl) ?_
  refine lv_iload_n hx hb dL_tryApart_3 rfl (lv_at hl 3 rfl) ?_
  refine tr_call (pre := []) (wc := fQ cy x a tr s0 s1 pa q σ n fl tx ln) (k := fApa va vb vw) (vx_runV (As := [.int va, .int vb, .int vw]) (rest := []) ⟨hx, hb, hml, hown, hts⟩ (c_X7_apart l hfl g cy x a tr s0 s1 pa s.heap.size bd q σ Hh n K fl tx ln va vb vw hI ) ⟨cB 3 hts wd20_19 wd1_2 wd20_16 rfl rfl (by decide +kernel) ⟨Nat.le_of_ble_eq_true rfl, Nat.le_of_ble_eq_true rfl⟩, hts _ wd20_17, hts _ wd20_18⟩ (pv2S (pre := []) hK hP hD hS hA hX hY 5 rfl rfl) rfl rfl hl.1 rfl (lv_room (Nat.le_of_ble_eq_true rfl)) dL_tryApart_4 ⟨Nat.le_of_ble_eq_true rfl, Nat.le_of_ble_eq_true rfl⟩) hP hD hS hA (fun _ => fQ_ad) (fun q9 H locs hq9 hP hD hS => ?_) (fun hk q8 ce H locs hce hcv hcl hP hS => ?_)
  · obtain ⟨hfx, hI9⟩ := hq9
    have hP : va_P g vwCl ((fQ cy x a tr s0 s1 pa q9 σ n fl tx ln)) H := hP
    have hD : va_D A ((fQ cy x a tr s0 s1 pa q9 σ n fl tx ln)) := hD
    show W _ _ _ _ _ _ _ _ _ _ _ _ _ _ _ (F0 mX 7 ls [.int (wv σ (12 * va.toNatClampNeg + vb.toNatClampNeg))])
    exact W.widen (Nat.le_of_ble_eq_true rfl) (Nat.le_of_ble_eq_true rfl) (wr_i q9 (by rw [an_0 hfx]) (by exact hI9) hP hS hx hb hr dL_tryApart_7 hlk)
  · have hfc : fApa va vb vw = 0 ∨ fApa va vb vw = 1 ∨ fApa va vb vw = 2 := by unfold fApa; (repeat' split) <;> simp
    rcases hfc with hj | hj | hj
    · exact absurd hj hk
    · rw [hj] at hcl
      refine vx_catch (name := exN 1) (E := exN 1) hown [] ⟨0, 7, 8, 13⟩ [⟨0, 7, 13, 16⟩] (by rw [htb]; rfl) (fun z hz => absurd hz List.not_mem_nil) rfl (by decide) (hts _ wd5_21) (va_Nw.use rfl (hY.1 1 (by decide) (by decide))) hce hcv hcl ?_
      show W _ _ _ _ _ _ _ _ _ _ _ _ _ _ _ (F0 mX 8 ls [.ref q8])
      refine lv_astore (lv' := [(4, .ref q8), (0, .ref (x 0)), (1, .int va), (2, .int vb), (3, .int vw)]) hx hb dL_tryApart_8 hl (by decide) rfl (fun ls hl => ?_)
      refine lv_ldc hx hb hown (hts _ wd6_0) dL_tryApart_10 ?_
      exact W.widen (Nat.le_of_ble_eq_true rfl) (Nat.le_of_ble_eq_true rfl) (wr_i q (by rw [an_k hj (by decide)]; rfl) (by exact hI) hP hS hx hb hr dL_tryApart_12 hlk)
    · rw [hj] at hcl
      refine vx_catch (name := exN 2) (E := exN 2) hown [⟨0, 7, 8, 13⟩] ⟨0, 7, 13, 16⟩ [] (by rw [htb]; rfl) (fun z hz => by rcases List.mem_cons.mp hz with rfl | hz; exact Or.inr ⟨by decide, exN 1, hts _ wd5_21, hY.2.1 2 1 (by decide) (by decide) (by decide) (by decide) (by decide)⟩; exact absurd hz List.not_mem_nil) rfl (by decide) (hts _ wd5_22) (va_Nw.use rfl (hY.1 2 (by decide) (by decide))) hce hcv hcl ?_
      show W _ _ _ _ _ _ _ _ _ _ _ _ _ _ _ (F0 mX 13 ls [.ref q8])
      refine lv_astore (lv' := [(4, .ref q8), (0, .ref (x 0)), (1, .int va), (2, .int vb), (3, .int vw)]) hx hb dL_tryApart_13 hl (by decide) rfl (fun ls hl => ?_)
      refine lv_ldc hx hb hown (hts _ wd6_1) dL_tryApart_15 ?_
      exact W.widen (Nat.le_of_ble_eq_true rfl) (Nat.le_of_ble_eq_true rfl) (wr_i q (by rw [an_k hj (by decide)]; rfl) (by exact hI) hP hS hx hb hr dL_tryApart_17 hlk)
set_option maxHeartbeats 4000000 in
set_option maxRecDepth 100000 in
theorem c_L_tryFind (l : Launch) (hfl : l.stackTraces = false) (g : va_G) (cy : Nat → ClassId) (x a tr s0 s1 : Nat → Nat) (pa : Nat → Nat → Nat) (sz : Nat) (bd : Nat) (q : Sc) (σ : Nat → Nat) (Hh : Nat → Nat → Nat) (n : Nat) (K : Nat → Nat → Nat) (fl : Nat → Bool) (tx : Nat → Nat) (ln : Nat) (vd : Int32) (vf : Int32) (vc : Int32) (hI : fI bd q σ Hh n K fl tx ln) : Met l yL_tryFind (Cond.codeWith yL_tryFind cL_tryFind 5 (some .int) [(0, 7, 8, 13), (0, 7, 13, 19)] :: wsL_law) ({ frames := 8, cells := 1, slots := 6, locals := 141 } : Room) (va_Pc [.ref (x 0), .int vd, .int vf, .int vc] (pr2 g cy (fQ cy x a tr s0 s1 pa q σ n fl tx ln) sz)) (wr_Q (fun _ : Sc => some (.int (an (fFind σ vd vf vc) (nI (findA σ vd vf vc))))) (fun u => fI (if fFind σ vd vf vc = 0 then bd else bd) u (if fFind σ vd vf vc = 0 then findR σ vd vf vc else σ) (if fFind σ vd vf vc = 0 then hiH Hh n σ else Hh) (if fFind σ vd vf vc = 0 then hiN n else n) K fl tx ln) (fun u => fQ cy x a tr s0 s1 pa u (if fFind σ vd vf vc = 0 then findR σ vd vf vc else σ) (if fFind σ vd vf vc = 0 then hiN n else n) fl tx ln) g (va_A (fQ cy x a tr s0 s1 pa q σ n fl tx ln) sz)) 1 6 (va_A (fQ cy x a tr s0 s1 pa q σ n fl tx ln) sz) := by
  refine mt_h (cc := cL_tryFind) (maxL := 5) (ret := some .int) (by decide +kernel) (Nat.le_of_ble_eq_true rfl) ?_
  intro pX eX s mX below meth cX ls A hx hb hr hml hown hts hlk htb hsz hAe hA hP hD hK hX hY hl
  subst hsz
  rw [← hAe]
  clear hAe
  have hl : lv_has ls 5 [(0, .ref (x 0)), (1, .int vd), (2, .int vf), (3, .int vc)] := hl
  have hS : va_S A s.heap s.heap [] := va_S.rf
  refine lv_aload_n hx hb dL_tryFind_0 rfl (lv_at hl 0 rfl) ?_
  refine lv_iload_n hx hb dL_tryFind_1 rfl (lv_at hl 1 rfl) ?_
  refine lv_iload_n hx hb dL_tryFind_2 rfl (lv_at hl 2 rfl) ?_
  refine lv_iload_n hx hb dL_tryFind_3 rfl (lv_at hl 3 rfl) ?_
  refine tr_call (pre := []) (wc := fQ cy x a tr s0 s1 pa q σ n fl tx ln) (k := fFind σ vd vf vc) (vx_runV (As := [.int vd, .int vf, .int vc]) (rest := []) ⟨hx, hb, hml, hown, hts⟩ (c_X7_find l hfl g cy x a tr s0 s1 pa s.heap.size bd q σ Hh n K fl tx ln vd vf vc hI ) ⟨cB 3 hts wd21_23 wd1_2 wd21_20 rfl rfl (by decide +kernel) ⟨Nat.le_of_ble_eq_true rfl, Nat.le_of_ble_eq_true rfl⟩, hts _ wd21_21, hts _ wd21_22⟩ (pv2S (pre := []) hK hP hD hS hA hX hY 5 rfl rfl) rfl rfl hl.1 rfl (lv_room (Nat.le_of_ble_eq_true rfl)) dL_tryFind_4 ⟨Nat.le_of_ble_eq_true rfl, Nat.le_of_ble_eq_true rfl⟩) hP hD hS hA (fun _ => fQ_ad) (fun q9 H locs hq9 hP hD hS => ?_) (fun hk q8 ce H locs hce hcv hcl hP hS => ?_)
  · obtain ⟨hfx, hI9⟩ := hq9
    have hP : va_P g vwCl ((fQ cy x a tr s0 s1 pa q9 (findR σ vd vf vc) (hiN n) fl tx ln)) H := hP
    have hD : va_D A ((fQ cy x a tr s0 s1 pa q9 (findR σ vd vf vc) (hiN n) fl tx ln)) := hD
    show W _ _ _ _ _ _ _ _ _ _ _ _ _ _ _ (F0 mX 7 ls [.int (nI (findA σ vd vf vc))])
    exact W.widen (Nat.le_of_ble_eq_true rfl) (Nat.le_of_ble_eq_true rfl) (wr_i q9 (by rw [an_0 hfx]) (by simp only [if_pos hfx]; exact hI9) (by simp only [if_pos hfx]; exact hP) hS hx hb hr dL_tryFind_7 hlk)
  · have hfc : fFind σ vd vf vc = 0 ∨ fFind σ vd vf vc = 1 ∨ fFind σ vd vf vc = 3 := by unfold fFind fAsk; (repeat' split) <;> simp
    rcases hfc with hj | hj | hj
    · exact absurd hj hk
    · rw [hj] at hcl
      refine vx_catch (name := exN 1) (E := exN 1) hown [] ⟨0, 7, 8, 13⟩ [⟨0, 7, 13, 19⟩] (by rw [htb]; rfl) (fun z hz => absurd hz List.not_mem_nil) rfl (by decide) (hts _ wd5_21) (va_Nw.use rfl (hY.1 1 (by decide) (by decide))) hce hcv hcl ?_
      show W _ _ _ _ _ _ _ _ _ _ _ _ _ _ _ (F0 mX 8 ls [.ref q8])
      refine lv_astore (lv' := [(4, .ref q8), (0, .ref (x 0)), (1, .int vd), (2, .int vf), (3, .int vc)]) hx hb dL_tryFind_8 hl (by decide) rfl (fun ls hl => ?_)
      refine lv_ldc hx hb hown (hts _ wd6_0) dL_tryFind_10 ?_
      exact W.widen (Nat.le_of_ble_eq_true rfl) (Nat.le_of_ble_eq_true rfl) (wr_i q (by rw [an_k hj (by decide)]; rfl) (by simp only [if_neg hk]; exact hI) (by simp only [if_neg hk]; exact hP) hS hx hb hr dL_tryFind_12 hlk)
    · rw [hj] at hcl
      refine vx_catch (name := exN 3) (E := exN 3) hown [⟨0, 7, 8, 13⟩] ⟨0, 7, 13, 19⟩ [] (by rw [htb]; rfl) (fun z hz => by rcases List.mem_cons.mp hz with rfl | hz; exact Or.inr ⟨by decide, exN 1, hts _ wd5_21, hY.2.1 3 1 (by decide) (by decide) (by decide) (by decide) (by decide)⟩; exact absurd hz List.not_mem_nil) rfl (by decide) (hts _ wd5_23) (va_Nw.use rfl (hY.1 3 (by decide) (by decide))) hce hcv hcl ?_
      show W _ _ _ _ _ _ _ _ _ _ _ _ _ _ _ (F0 mX 13 ls [.ref q8])
      refine lv_astore (lv' := [(4, .ref q8), (0, .ref (x 0)), (1, .int vd), (2, .int vf), (3, .int vc)]) hx hb dL_tryFind_13 hl (by decide) rfl (fun ls hl => ?_)
      refine lv_ldc hx hb hown (hts _ wd6_2) dL_tryFind_15 ?_
      exact W.widen (Nat.le_of_ble_eq_true rfl) (Nat.le_of_ble_eq_true rfl) (wr_i q (by rw [an_k hj (by decide)]; rfl) (by simp only [if_neg hk]; exact hI) (by simp only [if_neg hk]; exact hP) hS hx hb hr dL_tryFind_17 hlk)
set_option maxHeartbeats 4000000 in
set_option maxRecDepth 100000 in
theorem c_L_tryHours (l : Launch) (hfl : l.stackTraces = false) (g : va_G) (cy : Nat → ClassId) (x a tr s0 s1 : Nat → Nat) (pa : Nat → Nat → Nat) (sz : Nat) (bd : Nat) (q : Sc) (σ : Nat → Nat) (Hh : Nat → Nat → Nat) (n : Nat) (K : Nat → Nat → Nat) (fl : Nat → Bool) (tx : Nat → Nat) (ln : Nat) (vn : Int32) (hI : fI bd q σ Hh n K fl tx ln) (hbd : bd + 99 ≤ 100000) : Met l yL_tryHours (Cond.codeWith yL_tryHours cL_tryHours 3 (some .int) [(0, 5, 6, 16)] :: wsL_law) ({ frames := 8, cells := 1, slots := 6, locals := 125 } : Room) (va_Pc [.ref (x 0), .int vn] (pr2 g cy (fQ cy x a tr s0 s1 pa q σ n fl tx ln) sz)) (wr_Q (fun _ : Sc => some (.int (an (fPass vn) (nI (hoursA σ vn))))) (fun u => fI (if fPass vn = 0 then bd + 99 else bd) u (if fPass vn = 0 then hoursR σ vn else σ) (if fPass vn = 0 then hiH Hh n σ else Hh) (if fPass vn = 0 then hiN n else n) K fl tx ln) (fun u => fQ cy x a tr s0 s1 pa u (if fPass vn = 0 then hoursR σ vn else σ) (if fPass vn = 0 then hiN n else n) fl tx ln) g (va_A (fQ cy x a tr s0 s1 pa q σ n fl tx ln) sz)) 1 6 (va_A (fQ cy x a tr s0 s1 pa q σ n fl tx ln) sz) := by
  refine mt_h (cc := cL_tryHours) (maxL := 3) (ret := some .int) (by decide +kernel) (Nat.le_of_ble_eq_true rfl) ?_
  intro pX eX s mX below meth cX ls A hx hb hr hml hown hts hlk htb hsz hAe hA hP hD hK hX hY hl
  subst hsz
  rw [← hAe]
  clear hAe
  have hl : lv_has ls 3 [(0, .ref (x 0)), (1, .int vn)] := hl
  have hS : va_S A s.heap s.heap [] := va_S.rf
  refine lv_aload_n hx hb dL_tryHours_0 rfl (lv_at hl 0 rfl) ?_
  refine lv_iload_n hx hb dL_tryHours_1 rfl (lv_at hl 1 rfl) ?_
  refine tr_call (pre := []) (wc := fQ cy x a tr s0 s1 pa q σ n fl tx ln) (k := fPass vn) (vx_runV (As := [.int vn]) (rest := []) ⟨hx, hb, hml, hown, hts⟩ (c_X7_hours l hfl g cy x a tr s0 s1 pa s.heap.size bd q σ Hh n K fl tx ln vn hI hbd) ⟨cB 1 hts wd22_8 wd1_2 wd22_5 rfl rfl (by decide +kernel) ⟨Nat.le_of_ble_eq_true rfl, Nat.le_of_ble_eq_true rfl⟩, hts _ wd22_6, hts _ wd22_7⟩ (pv2S (pre := []) hK hP hD hS hA hX hY 5 rfl rfl) rfl rfl hl.1 rfl (lv_room (Nat.le_of_ble_eq_true rfl)) dL_tryHours_2 ⟨Nat.le_of_ble_eq_true rfl, Nat.le_of_ble_eq_true rfl⟩) hP hD hS hA (fun _ => fQ_ad) (fun q9 H locs hq9 hP hD hS => ?_) (fun hk q8 ce H locs hce hcv hcl hP hS => ?_)
  · obtain ⟨hfx, hI9⟩ := hq9
    have hP : va_P g vwCl ((fQ cy x a tr s0 s1 pa q9 (hoursR σ vn) (hiN n) fl tx ln)) H := hP
    have hD : va_D A ((fQ cy x a tr s0 s1 pa q9 (hoursR σ vn) (hiN n) fl tx ln)) := hD
    show W _ _ _ _ _ _ _ _ _ _ _ _ _ _ _ (F0 mX 5 ls [.int (nI (hoursA σ vn))])
    exact W.widen (Nat.le_of_ble_eq_true rfl) (Nat.le_of_ble_eq_true rfl) (wr_i q9 (by rw [an_0 hfx]) (by simp only [if_pos hfx]; exact hI9) (by simp only [if_pos hfx]; exact hP) hS hx hb hr dL_tryHours_5 hlk)
  · have hfc : fPass vn = 0 ∨ fPass vn = 2 := by unfold fPass; (repeat' split) <;> simp
    rcases hfc with hj | hj
    · exact absurd hj hk
    · rw [hj] at hcl
      refine vx_catch (name := exN 2) (E := exN 2) hown [] ⟨0, 5, 6, 16⟩ [] (by rw [htb]; rfl) (fun z hz => absurd hz List.not_mem_nil) rfl (by decide) (hts _ wd5_22) (va_Nw.use rfl (hY.1 2 (by decide) (by decide))) hce hcv hcl ?_
      show W _ _ _ _ _ _ _ _ _ _ _ _ _ _ _ (F0 mX 6 ls [.ref q8])
      refine lv_astore_n (lv' := [(2, .ref q8), (0, .ref (x 0)), (1, .int vn)]) hx hb dL_tryHours_6 rfl hl (by decide) rfl (fun ls hl => ?_)
      refine lv_ldc hx hb hown (hts _ wd6_1) dL_tryHours_7 ?_
      exact W.widen (Nat.le_of_ble_eq_true rfl) (Nat.le_of_ble_eq_true rfl) (wr_i q (by rw [an_k hj (by decide)]; rfl) (by simp only [if_neg hk]; exact hI) (by simp only [if_neg hk]; exact hP) hS hx hb hr dL_tryHours_9 hlk)
set_option maxHeartbeats 4000000 in
set_option maxRecDepth 100000 in
theorem c_L_tryLay (l : Launch) (hfl : l.stackTraces = false) (g : va_G) (cy : Nat → ClassId) (x a tr s0 s1 : Nat → Nat) (pa : Nat → Nat → Nat) (sz : Nat) (bd : Nat) (q : Sc) (σ : Nat → Nat) (Hh : Nat → Nat → Nat) (n : Nat) (K : Nat → Nat → Nat) (fl : Nat → Bool) (tx : Nat → Nat) (ln : Nat) (vw : Int32) (vv : Int32) (hI : fI bd q σ Hh n K fl tx ln) : Met l yL_tryLay (Cond.codeWith yL_tryLay cL_tryLay 4 (some .int) [(0, 6, 7, 16)] :: wsL_law) ({ frames := 8, cells := 1, slots := 6, locals := 126 } : Room) (va_Pc [.ref (x 0), .int vw, .int vv] (pr2 g cy (fQ cy x a tr s0 s1 pa q σ n fl tx ln) sz)) (wr_Q (fun _ : Sc => some (.int (an (fSet vw vv) (nI (setA σ vw vv))))) (fun u => fI (if fSet vw vv = 0 then bd else bd) u (if fSet vw vv = 0 then setR σ vw vv else σ) (if fSet vw vv = 0 then hiH Hh n σ else Hh) (if fSet vw vv = 0 then hiN n else n) K fl tx ln) (fun u => fQ cy x a tr s0 s1 pa u (if fSet vw vv = 0 then setR σ vw vv else σ) (if fSet vw vv = 0 then hiN n else n) fl tx ln) g (va_A (fQ cy x a tr s0 s1 pa q σ n fl tx ln) sz)) 1 6 (va_A (fQ cy x a tr s0 s1 pa q σ n fl tx ln) sz) := by
  refine mt_h (cc := cL_tryLay) (maxL := 4) (ret := some .int) (by decide +kernel) (Nat.le_of_ble_eq_true rfl) ?_
  intro pX eX s mX below meth cX ls A hx hb hr hml hown hts hlk htb hsz hAe hA hP hD hK hX hY hl
  subst hsz
  rw [← hAe]
  clear hAe
  have hl : lv_has ls 4 [(0, .ref (x 0)), (1, .int vw), (2, .int vv)] := hl
  have hS : va_S A s.heap s.heap [] := va_S.rf
  refine lv_aload_n hx hb dL_tryLay_0 rfl (lv_at hl 0 rfl) ?_
  refine lv_iload_n hx hb dL_tryLay_1 rfl (lv_at hl 1 rfl) ?_
  refine lv_iload_n hx hb dL_tryLay_2 rfl (lv_at hl 2 rfl) ?_
  refine tr_call (pre := []) (wc := fQ cy x a tr s0 s1 pa q σ n fl tx ln) (k := fSet vw vv) (vx_runV (As := [.int vw, .int vv]) (rest := []) ⟨hx, hb, hml, hown, hts⟩ (c_X7_set l hfl g cy x a tr s0 s1 pa s.heap.size bd q σ Hh n K fl tx ln vw vv hI ) ⟨cB 2 hts wd22_17 wd1_2 wd22_14 rfl rfl (by decide +kernel) ⟨Nat.le_of_ble_eq_true rfl, Nat.le_of_ble_eq_true rfl⟩, hts _ wd22_15, hts _ wd22_16⟩ (pv2S (pre := []) hK hP hD hS hA hX hY 5 rfl rfl) rfl rfl hl.1 rfl (lv_room (Nat.le_of_ble_eq_true rfl)) dL_tryLay_3 ⟨Nat.le_of_ble_eq_true rfl, Nat.le_of_ble_eq_true rfl⟩) hP hD hS hA (fun _ => fQ_ad) (fun q9 H locs hq9 hP hD hS => ?_) (fun hk q8 ce H locs hce hcv hcl hP hS => ?_)
  · obtain ⟨hfx, hI9⟩ := hq9
    have hP : va_P g vwCl ((fQ cy x a tr s0 s1 pa q9 (setR σ vw vv) (hiN n) fl tx ln)) H := hP
    have hD : va_D A ((fQ cy x a tr s0 s1 pa q9 (setR σ vw vv) (hiN n) fl tx ln)) := hD
    show W _ _ _ _ _ _ _ _ _ _ _ _ _ _ _ (F0 mX 6 ls [.int (nI (setA σ vw vv))])
    exact W.widen (Nat.le_of_ble_eq_true rfl) (Nat.le_of_ble_eq_true rfl) (wr_i q9 (by rw [an_0 hfx]) (by simp only [if_pos hfx]; exact hI9) (by simp only [if_pos hfx]; exact hP) hS hx hb hr dL_tryLay_6 hlk)
  · have hfc : fSet vw vv = 0 ∨ fSet vw vv = 2 := by unfold fSet; (repeat' split) <;> simp
    rcases hfc with hj | hj
    · exact absurd hj hk
    · rw [hj] at hcl
      refine vx_catch (name := exN 2) (E := exN 2) hown [] ⟨0, 6, 7, 16⟩ [] (by rw [htb]; rfl) (fun z hz => absurd hz List.not_mem_nil) rfl (by decide) (hts _ wd5_22) (va_Nw.use rfl (hY.1 2 (by decide) (by decide))) hce hcv hcl ?_
      show W _ _ _ _ _ _ _ _ _ _ _ _ _ _ _ (F0 mX 7 ls [.ref q8])
      refine lv_astore_n (lv' := [(3, .ref q8), (0, .ref (x 0)), (1, .int vw), (2, .int vv)]) hx hb dL_tryLay_7 rfl hl (by decide) rfl (fun ls hl => ?_)
      refine lv_ldc hx hb hown (hts _ wd6_1) dL_tryLay_8 ?_
      exact W.widen (Nat.le_of_ble_eq_true rfl) (Nat.le_of_ble_eq_true rfl) (wr_i q (by rw [an_k hj (by decide)]; rfl) (by simp only [if_neg hk]; exact hI) (by simp only [if_neg hk]; exact hP) hS hx hb hr dL_tryLay_10 hlk)
set_option maxHeartbeats 4000000 in
set_option maxRecDepth 100000 in
theorem c_L_tryUndo (l : Launch) (hfl : l.stackTraces = false) (g : va_G) (cy : Nat → ClassId) (x a tr s0 s1 : Nat → Nat) (pa : Nat → Nat → Nat) (sz : Nat) (bd : Nat) (q : Sc) (σ : Nat → Nat) (Hh : Nat → Nat → Nat) (n : Nat) (K : Nat → Nat → Nat) (fl : Nat → Bool) (tx : Nat → Nat) (ln : Nat)  (hI : fI bd q σ Hh n K fl tx ln) : Met l yL_tryUndo (Cond.codeWith yL_tryUndo cL_tryUndo 2 (some .int) [(0, 4, 5, 19)] :: wsL_law) ({ frames := 7, cells := 1, slots := 6, locals := 124 } : Room) (va_Pc [.ref (x 0)] (pr2 g cy (fQ cy x a tr s0 s1 pa q σ n fl tx ln) sz)) (wr_Q (fun _ : Sc => some (.int (an (fUnd n) (nI (n - 1))))) (fun u => fI bd u (if fUnd n = 0 then Hh (n - 1) else σ) Hh (if fUnd n = 0 then n - 1 else n) K fl tx ln) (fun u => fQ cy x a tr s0 s1 pa u (if fUnd n = 0 then Hh (n - 1) else σ) (if fUnd n = 0 then n - 1 else n) fl tx ln) g (va_A (fQ cy x a tr s0 s1 pa q σ n fl tx ln) sz)) 1 6 (va_A (fQ cy x a tr s0 s1 pa q σ n fl tx ln) sz) := by
  refine mt_h (cc := cL_tryUndo) (maxL := 2) (ret := some .int) (by decide +kernel) (Nat.le_of_ble_eq_true rfl) ?_
  intro pX eX s mX below meth cX ls A hx hb hr hml hown hts hlk htb hsz hAe hA hP hD hK hX hY hl
  subst hsz
  rw [← hAe]
  clear hAe
  have hl : lv_has ls 2 [(0, .ref (x 0))] := hl
  have hS : va_S A s.heap s.heap [] := va_S.rf
  refine lv_aload_n hx hb dL_tryUndo_0 rfl (lv_at hl 0 rfl) ?_
  refine tr_call (pre := []) (wc := fQ cy x a tr s0 s1 pa q σ n fl tx ln) (k := fUnd n) (vx_runV (As := []) (rest := []) ⟨hx, hb, hml, hown, hts⟩ (c_X7_undo l hfl g cy x a tr s0 s1 pa s.heap.size bd q σ Hh n K fl tx ln  hI ) ⟨cB 0 hts wd23_9 wd1_2 wd23_6 rfl rfl (by decide +kernel) ⟨Nat.le_of_ble_eq_true rfl, Nat.le_of_ble_eq_true rfl⟩, hts _ wd23_7, hts _ wd23_8⟩ (pv2S (pre := []) hK hP hD hS hA hX hY 5 rfl rfl) rfl rfl hl.1 rfl (lv_room (Nat.le_of_ble_eq_true rfl)) dL_tryUndo_1 ⟨Nat.le_of_ble_eq_true rfl, Nat.le_of_ble_eq_true rfl⟩) hP hD hS hA (fun _ => fQ_ad) (fun q9 H locs hq9 hP hD hS => ?_) (fun hk q8 ce H locs hce hcv hcl hP hS => ?_)
  · obtain ⟨hfx, hI9⟩ := hq9
    have hP : va_P g vwCl ((fQ cy x a tr s0 s1 pa q9 (Hh (n - 1)) (n - 1) fl tx ln)) H := hP
    have hD : va_D A ((fQ cy x a tr s0 s1 pa q9 (Hh (n - 1)) (n - 1) fl tx ln)) := hD
    show W _ _ _ _ _ _ _ _ _ _ _ _ _ _ _ (F0 mX 4 ls [.int (nI (n - 1))])
    exact W.widen (Nat.le_of_ble_eq_true rfl) (Nat.le_of_ble_eq_true rfl) (wr_i q9 (by rw [an_0 hfx]) (by simp only [if_pos hfx]; exact hI9) (by simp only [if_pos hfx]; exact hP) hS hx hb hr dL_tryUndo_4 hlk)
  · have hfc : fUnd n = 0 ∨ fUnd n = 3 := by unfold fUnd; (repeat' split) <;> simp
    rcases hfc with hj | hj
    · exact absurd hj hk
    · rw [hj] at hcl
      refine vx_catch (name := exN 3) (E := exN 3) hown [] ⟨0, 4, 5, 19⟩ [] (by rw [htb]; rfl) (fun z hz => absurd hz List.not_mem_nil) rfl (by decide) (hts _ wd5_23) (va_Nw.use rfl (hY.1 3 (by decide) (by decide))) hce hcv hcl ?_
      show W _ _ _ _ _ _ _ _ _ _ _ _ _ _ _ (F0 mX 5 ls [.ref q8])
      refine lv_astore_n (lv' := [(1, .ref q8), (0, .ref (x 0))]) hx hb dL_tryUndo_5 rfl hl (by decide) rfl (fun ls hl => ?_)
      refine lv_ldc hx hb hown (hts _ wd6_2) dL_tryUndo_6 ?_
      exact W.widen (Nat.le_of_ble_eq_true rfl) (Nat.le_of_ble_eq_true rfl) (wr_i q (by rw [an_k hj (by decide)]; rfl) (by simp only [if_neg hk]; exact hI) (by simp only [if_neg hk]; exact hP) hS hx hb hr dL_tryUndo_8 hlk)
set_option maxHeartbeats 4000000 in
set_option maxRecDepth 100000 in
theorem c_L_tryCanBe (l : Launch) (hfl : l.stackTraces = false) (g : va_G) (cy : Nat → ClassId) (x a tr s0 s1 : Nat → Nat) (pa : Nat → Nat → Nat) (sz : Nat) (bd : Nat) (q : Sc) (σ : Nat → Nat) (Hh : Nat → Nat → Nat) (n : Nat) (K : Nat → Nat → Nat) (fl : Nat → Bool) (tx : Nat → Nat) (ln : Nat) (vd : Int32) (hI : fI bd q σ Hh n K fl tx ln) : Met l yL_tryCanBe (Cond.codeWith yL_tryCanBe cL_tryCanBe 3 (some .int) [(0, 5, 6, 13), (0, 5, 10, 19)] :: wsL_law) ({ frames := 8, cells := 1, slots := 6, locals := 142 } : Room) (va_Pc [.ref (x 0), .int vd] (pr2 g cy (fQ cy x a tr s0 s1 pa q σ n fl tx ln) sz)) (wr_Q (fun _ : Sc => some (.int (an (fAsk σ vd) (nI (mk (cbe σ vd.toNatClampNeg) 12))))) (fun u => fI bd u σ Hh n K fl tx ln) (fun u => fQ cy x a tr s0 s1 pa u σ n fl tx ln) g (va_A (fQ cy x a tr s0 s1 pa q σ n fl tx ln) sz)) 1 6 (va_A (fQ cy x a tr s0 s1 pa q σ n fl tx ln) sz) := by
  refine mt_h (cc := cL_tryCanBe) (maxL := 3) (ret := some .int) (by decide +kernel) (Nat.le_of_ble_eq_true rfl) ?_
  intro pX eX s mX below meth cX ls A hx hb hr hml hown hts hlk htb hsz hAe hA hP hD hK hX hY hl
  subst hsz
  rw [← hAe]
  clear hAe
  have hl : lv_has ls 3 [(0, .ref (x 0)), (1, .int vd)] := hl
  have hS : va_S A s.heap s.heap [] := va_S.rf
  refine lv_aload_n hx hb dL_tryCanBe_0 rfl (lv_at hl 0 rfl) ?_
  refine lv_iload_n hx hb dL_tryCanBe_1 rfl (lv_at hl 1 rfl) ?_
  refine tr_call (pre := []) (wc := fQ cy x a tr s0 s1 pa q σ n fl tx ln) (k := fAsk σ vd) (vx_runV (As := [.int vd]) (rest := []) ⟨hx, hb, hml, hown, hts⟩ (c_X7_canBe l hfl g cy x a tr s0 s1 pa s.heap.size bd q σ Hh n K fl tx ln vd hI ) ⟨cB 1 hts wd24_0 wd1_2 wd23_21 rfl rfl (by decide +kernel) ⟨Nat.le_of_ble_eq_true rfl, Nat.le_of_ble_eq_true rfl⟩, hts _ wd23_22, hts _ wd23_23⟩ (pv2S (pre := []) hK hP hD hS hA hX hY 5 rfl rfl) rfl rfl hl.1 rfl (lv_room (Nat.le_of_ble_eq_true rfl)) dL_tryCanBe_2 ⟨Nat.le_of_ble_eq_true rfl, Nat.le_of_ble_eq_true rfl⟩) hP hD hS hA (fun _ => fQ_ad) (fun q9 H locs hq9 hP hD hS => ?_) (fun hk q8 ce H locs hce hcv hcl hP hS => ?_)
  · obtain ⟨hfx, hI9⟩ := hq9
    have hP : va_P g vwCl ((fQ cy x a tr s0 s1 pa q9 σ n fl tx ln)) H := hP
    have hD : va_D A ((fQ cy x a tr s0 s1 pa q9 σ n fl tx ln)) := hD
    show W _ _ _ _ _ _ _ _ _ _ _ _ _ _ _ (F0 mX 5 ls [.int (nI (mk (cbe σ vd.toNatClampNeg) 12))])
    exact W.widen (Nat.le_of_ble_eq_true rfl) (Nat.le_of_ble_eq_true rfl) (wr_i q9 (by rw [an_0 hfx]) (by exact hI9) hP hS hx hb hr dL_tryCanBe_5 hlk)
  · have hfc : fAsk σ vd = 0 ∨ fAsk σ vd = 1 ∨ fAsk σ vd = 3 := by unfold fAsk; (repeat' split) <;> simp
    rcases hfc with hj | hj | hj
    · exact absurd hj hk
    · rw [hj] at hcl
      refine vx_catch (name := exN 1) (E := exN 1) hown [] ⟨0, 5, 6, 13⟩ [⟨0, 5, 10, 19⟩] (by rw [htb]; rfl) (fun z hz => absurd hz List.not_mem_nil) rfl (by decide) (hts _ wd5_21) (va_Nw.use rfl (hY.1 1 (by decide) (by decide))) hce hcv hcl ?_
      show W _ _ _ _ _ _ _ _ _ _ _ _ _ _ _ (F0 mX 6 ls [.ref q8])
      refine lv_astore_n (lv' := [(2, .ref q8), (0, .ref (x 0)), (1, .int vd)]) hx hb dL_tryCanBe_6 rfl hl (by decide) rfl (fun ls hl => ?_)
      refine lv_ldc hx hb hown (hts _ wd6_0) dL_tryCanBe_7 ?_
      exact W.widen (Nat.le_of_ble_eq_true rfl) (Nat.le_of_ble_eq_true rfl) (wr_i q (by rw [an_k hj (by decide)]; rfl) (by exact hI) hP hS hx hb hr dL_tryCanBe_9 hlk)
    · rw [hj] at hcl
      refine vx_catch (name := exN 3) (E := exN 3) hown [⟨0, 5, 6, 13⟩] ⟨0, 5, 10, 19⟩ [] (by rw [htb]; rfl) (fun z hz => by rcases List.mem_cons.mp hz with rfl | hz; exact Or.inr ⟨by decide, exN 1, hts _ wd5_21, hY.2.1 3 1 (by decide) (by decide) (by decide) (by decide) (by decide)⟩; exact absurd hz List.not_mem_nil) rfl (by decide) (hts _ wd5_23) (va_Nw.use rfl (hY.1 3 (by decide) (by decide))) hce hcv hcl ?_
      show W _ _ _ _ _ _ _ _ _ _ _ _ _ _ _ (F0 mX 10 ls [.ref q8])
      refine lv_astore_n (lv' := [(2, .ref q8), (0, .ref (x 0)), (1, .int vd)]) hx hb dL_tryCanBe_10 rfl hl (by decide) rfl (fun ls hl => ?_)
      refine lv_ldc hx hb hown (hts _ wd6_2) dL_tryCanBe_11 ?_
      exact W.widen (Nat.le_of_ble_eq_true rfl) (Nat.le_of_ble_eq_true rfl) (wr_i q (by rw [an_k hj (by decide)]; rfl) (by exact hI) hP hS hx hb hr dL_tryCanBe_13 hlk)
set_option maxHeartbeats 4000000 in
set_option maxRecDepth 100000 in
theorem c_L_tryMeant (l : Launch) (hfl : l.stackTraces = false) (g : va_G) (cy : Nat → ClassId) (x a tr s0 s1 : Nat → Nat) (pa : Nat → Nat → Nat) (sz : Nat) (bd : Nat) (q : Sc) (σ : Nat → Nat) (Hh : Nat → Nat → Nat) (n : Nat) (K : Nat → Nat → Nat) (fl : Nat → Bool) (tx : Nat → Nat) (ln : Nat) (vm : Int32) (hI : fI bd q σ Hh n K fl tx ln) : Met l yL_tryMeant (Cond.codeWith yL_tryMeant cL_tryMeant 3 (some .int) [(0, 5, 6, 16)] :: wsL_law) ({ frames := 7, cells := 1, slots := 6, locals := 116 } : Room) (va_Pc [.ref (x 0), .int vm] (pr2 g cy (fQ cy x a tr s0 s1 pa q σ n fl tx ln) sz)) (wr_Q (fun _ : Sc => some (.int (an (fMea vm) (nI (mea σ vm.toNatClampNeg (σ 2)))))) (fun u => fI bd u σ Hh n K fl tx ln) (fun u => fQ cy x a tr s0 s1 pa u σ n fl tx ln) g (va_A (fQ cy x a tr s0 s1 pa q σ n fl tx ln) sz)) 1 6 (va_A (fQ cy x a tr s0 s1 pa q σ n fl tx ln) sz) := by
  refine mt_h (cc := cL_tryMeant) (maxL := 3) (ret := some .int) (by decide +kernel) (Nat.le_of_ble_eq_true rfl) ?_
  intro pX eX s mX below meth cX ls A hx hb hr hml hown hts hlk htb hsz hAe hA hP hD hK hX hY hl
  subst hsz
  rw [← hAe]
  clear hAe
  have hl : lv_has ls 3 [(0, .ref (x 0)), (1, .int vm)] := hl
  have hS : va_S A s.heap s.heap [] := va_S.rf
  refine lv_aload_n hx hb dL_tryMeant_0 rfl (lv_at hl 0 rfl) ?_
  refine lv_iload_n hx hb dL_tryMeant_1 rfl (lv_at hl 1 rfl) ?_
  refine tr_call (pre := []) (wc := fQ cy x a tr s0 s1 pa q σ n fl tx ln) (k := fMea vm) (vx_runV (As := [.int vm]) (rest := []) ⟨hx, hb, hml, hown, hts⟩ (c_X7_meant l hfl g cy x a tr s0 s1 pa s.heap.size bd q σ Hh n K fl tx ln vm hI ) ⟨cB 1 hts wd24_16 wd1_2 wd24_13 rfl rfl (by decide +kernel) ⟨Nat.le_of_ble_eq_true rfl, Nat.le_of_ble_eq_true rfl⟩, hts _ wd24_14, hts _ wd24_15⟩ (pv2S (pre := []) hK hP hD hS hA hX hY 5 rfl rfl) rfl rfl hl.1 rfl (lv_room (Nat.le_of_ble_eq_true rfl)) dL_tryMeant_2 ⟨Nat.le_of_ble_eq_true rfl, Nat.le_of_ble_eq_true rfl⟩) hP hD hS hA (fun _ => fQ_ad) (fun q9 H locs hq9 hP hD hS => ?_) (fun hk q8 ce H locs hce hcv hcl hP hS => ?_)
  · obtain ⟨hfx, hI9⟩ := hq9
    have hP : va_P g vwCl ((fQ cy x a tr s0 s1 pa q9 σ n fl tx ln)) H := hP
    have hD : va_D A ((fQ cy x a tr s0 s1 pa q9 σ n fl tx ln)) := hD
    show W _ _ _ _ _ _ _ _ _ _ _ _ _ _ _ (F0 mX 5 ls [.int (nI (mea σ vm.toNatClampNeg (σ 2)))])
    exact W.widen (Nat.le_of_ble_eq_true rfl) (Nat.le_of_ble_eq_true rfl) (wr_i q9 (by rw [an_0 hfx]) (by exact hI9) hP hS hx hb hr dL_tryMeant_5 hlk)
  · have hfc : fMea vm = 0 ∨ fMea vm = 2 := by unfold fMea; (repeat' split) <;> simp
    rcases hfc with hj | hj
    · exact absurd hj hk
    · rw [hj] at hcl
      refine vx_catch (name := exN 2) (E := exN 2) hown [] ⟨0, 5, 6, 16⟩ [] (by rw [htb]; rfl) (fun z hz => absurd hz List.not_mem_nil) rfl (by decide) (hts _ wd5_22) (va_Nw.use rfl (hY.1 2 (by decide) (by decide))) hce hcv hcl ?_
      show W _ _ _ _ _ _ _ _ _ _ _ _ _ _ _ (F0 mX 6 ls [.ref q8])
      refine lv_astore_n (lv' := [(2, .ref q8), (0, .ref (x 0)), (1, .int vm)]) hx hb dL_tryMeant_6 rfl hl (by decide) rfl (fun ls hl => ?_)
      refine lv_ldc hx hb hown (hts _ wd6_1) dL_tryMeant_7 ?_
      exact W.widen (Nat.le_of_ble_eq_true rfl) (Nat.le_of_ble_eq_true rfl) (wr_i q (by rw [an_k hj (by decide)]; rfl) (by exact hI) hP hS hx hb hr dL_tryMeant_9 hlk)
set_option maxHeartbeats 4000000 in
set_option maxRecDepth 100000 in
theorem c_L_tryKeep (l : Launch) (hfl : l.stackTraces = false) (g : va_G) (cy : Nat → ClassId) (x a tr s0 s1 : Nat → Nat) (pa : Nat → Nat → Nat) (sz : Nat) (bd : Nat) (q : Sc) (σ : Nat → Nat) (Hh : Nat → Nat → Nat) (n : Nat) (K : Nat → Nat → Nat) (fl : Nat → Bool) (tx : Nat → Nat) (ln : Nat) (vs : Int32) (hI : fI bd q σ Hh n K fl tx ln) : Met l yL_tryKeep (Cond.codeWith yL_tryKeep cL_tryKeep 3 (some .int) [(0, 5, 6, 13)] :: wsL_law) ({ frames := 7, cells := 1, slots := 6, locals := 104 } : Room) (va_Pc [.ref (x 0), .int vs] (pr2 g cy (fQ cy x a tr s0 s1 pa q σ n fl tx ln) sz)) (wr_Q (fun _ : Sc => some (.int (an (fSlo vs) (nI (σ 2))))) (fun u => fI bd u σ Hh n (if fSlo vs = 0 then sv2 K vs.toNatClampNeg σ else K) (if fSlo vs = 0 then sv2 fl vs.toNatClampNeg true else fl) tx ln) (fun u => fQ cy x a tr s0 s1 pa u σ n (if fSlo vs = 0 then sv2 fl vs.toNatClampNeg true else fl) tx ln) g (va_A (fQ cy x a tr s0 s1 pa q σ n fl tx ln) sz)) 1 6 (va_A (fQ cy x a tr s0 s1 pa q σ n fl tx ln) sz) := by
  refine mt_h (cc := cL_tryKeep) (maxL := 3) (ret := some .int) (by decide +kernel) (Nat.le_of_ble_eq_true rfl) ?_
  intro pX eX s mX below meth cX ls A hx hb hr hml hown hts hlk htb hsz hAe hA hP hD hK hX hY hl
  subst hsz
  rw [← hAe]
  clear hAe
  have hl : lv_has ls 3 [(0, .ref (x 0)), (1, .int vs)] := hl
  have hS : va_S A s.heap s.heap [] := va_S.rf
  refine lv_aload_n hx hb dL_tryKeep_0 rfl (lv_at hl 0 rfl) ?_
  refine lv_iload_n hx hb dL_tryKeep_1 rfl (lv_at hl 1 rfl) ?_
  refine tr_call (pre := []) (wc := fQ cy x a tr s0 s1 pa q σ n fl tx ln) (k := fSlo vs) (vx_runV (As := [.int vs]) (rest := []) ⟨hx, hb, hml, hown, hts⟩ (c_X7_save l hfl g cy x a tr s0 s1 pa s.heap.size bd q σ Hh n K fl tx ln vs hI ) ⟨cB 1 hts wd25_0 wd1_2 wd24_21 rfl rfl (by decide +kernel) ⟨Nat.le_of_ble_eq_true rfl, Nat.le_of_ble_eq_true rfl⟩, hts _ wd24_22, hts _ wd24_23⟩ (pv2S (pre := []) hK hP hD hS hA hX hY 5 rfl rfl) rfl rfl hl.1 rfl (lv_room (Nat.le_of_ble_eq_true rfl)) dL_tryKeep_2 ⟨Nat.le_of_ble_eq_true rfl, Nat.le_of_ble_eq_true rfl⟩) hP hD hS hA (fun _ => fQ_ad) (fun q9 H locs hq9 hP hD hS => ?_) (fun hk q8 ce H locs hce hcv hcl hP hS => ?_)
  · obtain ⟨hfx, hI9⟩ := hq9
    have hP : va_P g vwCl ((fQ cy x a tr s0 s1 pa q9 σ n (sv2 fl vs.toNatClampNeg true) tx ln)) H := hP
    have hD : va_D A ((fQ cy x a tr s0 s1 pa q9 σ n (sv2 fl vs.toNatClampNeg true) tx ln)) := hD
    show W _ _ _ _ _ _ _ _ _ _ _ _ _ _ _ (F0 mX 5 ls [.int (nI (σ 2))])
    exact W.widen (Nat.le_of_ble_eq_true rfl) (Nat.le_of_ble_eq_true rfl) (wr_i q9 (by rw [an_0 hfx]) (by simp only [if_pos hfx]; exact hI9) (by simp only [if_pos hfx]; exact hP) hS hx hb hr dL_tryKeep_5 hlk)
  · have hfc : fSlo vs = 0 ∨ fSlo vs = 1 := by unfold fSlo; (repeat' split) <;> simp
    rcases hfc with hj | hj
    · exact absurd hj hk
    · rw [hj] at hcl
      refine vx_catch (name := exN 1) (E := exN 1) hown [] ⟨0, 5, 6, 13⟩ [] (by rw [htb]; rfl) (fun z hz => absurd hz List.not_mem_nil) rfl (by decide) (hts _ wd5_21) (va_Nw.use rfl (hY.1 1 (by decide) (by decide))) hce hcv hcl ?_
      show W _ _ _ _ _ _ _ _ _ _ _ _ _ _ _ (F0 mX 6 ls [.ref q8])
      refine lv_astore_n (lv' := [(2, .ref q8), (0, .ref (x 0)), (1, .int vs)]) hx hb dL_tryKeep_6 rfl hl (by decide) rfl (fun ls hl => ?_)
      refine lv_ldc hx hb hown (hts _ wd6_0) dL_tryKeep_7 ?_
      exact W.widen (Nat.le_of_ble_eq_true rfl) (Nat.le_of_ble_eq_true rfl) (wr_i q (by rw [an_k hj (by decide)]; rfl) (by simp only [if_neg hk]; exact hI) (by simp only [if_neg hk]; exact hP) hS hx hb hr dL_tryKeep_9 hlk)
set_option maxHeartbeats 4000000 in
set_option maxRecDepth 100000 in
theorem c_L_tryBack (l : Launch) (hfl : l.stackTraces = false) (g : va_G) (cy : Nat → ClassId) (x a tr s0 s1 : Nat → Nat) (pa : Nat → Nat → Nat) (sz : Nat) (bd : Nat) (q : Sc) (σ : Nat → Nat) (Hh : Nat → Nat → Nat) (n : Nat) (K : Nat → Nat → Nat) (fl : Nat → Bool) (tx : Nat → Nat) (ln : Nat) (vs : Int32) (hI : fI bd q σ Hh n K fl tx ln) : Met l yL_tryBack (Cond.codeWith yL_tryBack cL_tryBack 3 (some .int) [(0, 5, 6, 13), (0, 5, 10, 19)] :: wsL_law) ({ frames := 7, cells := 1, slots := 6, locals := 104 } : Room) (va_Pc [.ref (x 0), .int vs] (pr2 g cy (fQ cy x a tr s0 s1 pa q σ n fl tx ln) sz)) (wr_Q (fun _ : Sc => some (.int (an (fRes fl vs) (nI (K vs.toNatClampNeg 2))))) (fun u => fI bd u (if fRes fl vs = 0 then K vs.toNatClampNeg else σ) Hh (if fRes fl vs = 0 then 0 else n) K fl tx ln) (fun u => fQ cy x a tr s0 s1 pa u (if fRes fl vs = 0 then K vs.toNatClampNeg else σ) (if fRes fl vs = 0 then 0 else n) fl tx ln) g (va_A (fQ cy x a tr s0 s1 pa q σ n fl tx ln) sz)) 1 6 (va_A (fQ cy x a tr s0 s1 pa q σ n fl tx ln) sz) := by
  refine mt_h (cc := cL_tryBack) (maxL := 3) (ret := some .int) (by decide +kernel) (Nat.le_of_ble_eq_true rfl) ?_
  intro pX eX s mX below meth cX ls A hx hb hr hml hown hts hlk htb hsz hAe hA hP hD hK hX hY hl
  subst hsz
  rw [← hAe]
  clear hAe
  have hl : lv_has ls 3 [(0, .ref (x 0)), (1, .int vs)] := hl
  have hS : va_S A s.heap s.heap [] := va_S.rf
  refine lv_aload_n hx hb dL_tryBack_0 rfl (lv_at hl 0 rfl) ?_
  refine lv_iload_n hx hb dL_tryBack_1 rfl (lv_at hl 1 rfl) ?_
  refine tr_call (pre := []) (wc := fQ cy x a tr s0 s1 pa q σ n fl tx ln) (k := fRes fl vs) (vx_runV (As := [.int vs]) (rest := []) ⟨hx, hb, hml, hown, hts⟩ (c_X7_restore l hfl g cy x a tr s0 s1 pa s.heap.size bd q σ Hh n K fl tx ln vs hI ) ⟨cB 1 hts wd25_12 wd1_2 wd25_9 rfl rfl (by decide +kernel) ⟨Nat.le_of_ble_eq_true rfl, Nat.le_of_ble_eq_true rfl⟩, hts _ wd25_10, hts _ wd25_11⟩ (pv2S (pre := []) hK hP hD hS hA hX hY 5 rfl rfl) rfl rfl hl.1 rfl (lv_room (Nat.le_of_ble_eq_true rfl)) dL_tryBack_2 ⟨Nat.le_of_ble_eq_true rfl, Nat.le_of_ble_eq_true rfl⟩) hP hD hS hA (fun _ => fQ_ad) (fun q9 H locs hq9 hP hD hS => ?_) (fun hk q8 ce H locs hce hcv hcl hP hS => ?_)
  · obtain ⟨hfx, hI9⟩ := hq9
    have hP : va_P g vwCl ((fQ cy x a tr s0 s1 pa q9 (K vs.toNatClampNeg) 0 fl tx ln)) H := hP
    have hD : va_D A ((fQ cy x a tr s0 s1 pa q9 (K vs.toNatClampNeg) 0 fl tx ln)) := hD
    show W _ _ _ _ _ _ _ _ _ _ _ _ _ _ _ (F0 mX 5 ls [.int (nI (K vs.toNatClampNeg 2))])
    exact W.widen (Nat.le_of_ble_eq_true rfl) (Nat.le_of_ble_eq_true rfl) (wr_i q9 (by rw [an_0 hfx]) (by simp only [if_pos hfx]; exact hI9) (by simp only [if_pos hfx]; exact hP) hS hx hb hr dL_tryBack_5 hlk)
  · have hfc : fRes fl vs = 0 ∨ fRes fl vs = 1 ∨ fRes fl vs = 3 := by unfold fRes; (repeat' split) <;> simp
    rcases hfc with hj | hj | hj
    · exact absurd hj hk
    · rw [hj] at hcl
      refine vx_catch (name := exN 1) (E := exN 1) hown [] ⟨0, 5, 6, 13⟩ [⟨0, 5, 10, 19⟩] (by rw [htb]; rfl) (fun z hz => absurd hz List.not_mem_nil) rfl (by decide) (hts _ wd5_21) (va_Nw.use rfl (hY.1 1 (by decide) (by decide))) hce hcv hcl ?_
      show W _ _ _ _ _ _ _ _ _ _ _ _ _ _ _ (F0 mX 6 ls [.ref q8])
      refine lv_astore_n (lv' := [(2, .ref q8), (0, .ref (x 0)), (1, .int vs)]) hx hb dL_tryBack_6 rfl hl (by decide) rfl (fun ls hl => ?_)
      refine lv_ldc hx hb hown (hts _ wd6_0) dL_tryBack_7 ?_
      exact W.widen (Nat.le_of_ble_eq_true rfl) (Nat.le_of_ble_eq_true rfl) (wr_i q (by rw [an_k hj (by decide)]; rfl) (by simp only [if_neg hk]; exact hI) (by simp only [if_neg hk]; exact hP) hS hx hb hr dL_tryBack_9 hlk)
    · rw [hj] at hcl
      refine vx_catch (name := exN 3) (E := exN 3) hown [⟨0, 5, 6, 13⟩] ⟨0, 5, 10, 19⟩ [] (by rw [htb]; rfl) (fun z hz => by rcases List.mem_cons.mp hz with rfl | hz; exact Or.inr ⟨by decide, exN 1, hts _ wd5_21, hY.2.1 3 1 (by decide) (by decide) (by decide) (by decide) (by decide)⟩; exact absurd hz List.not_mem_nil) rfl (by decide) (hts _ wd5_23) (va_Nw.use rfl (hY.1 3 (by decide) (by decide))) hce hcv hcl ?_
      show W _ _ _ _ _ _ _ _ _ _ _ _ _ _ _ (F0 mX 10 ls [.ref q8])
      refine lv_astore_n (lv' := [(2, .ref q8), (0, .ref (x 0)), (1, .int vs)]) hx hb dL_tryBack_10 rfl hl (by decide) rfl (fun ls hl => ?_)
      refine lv_ldc hx hb hown (hts _ wd6_2) dL_tryBack_11 ?_
      exact W.widen (Nat.le_of_ble_eq_true rfl) (Nat.le_of_ble_eq_true rfl) (wr_i q (by rw [an_k hj (by decide)]; rfl) (by simp only [if_neg hk]; exact hI) (by simp only [if_neg hk]; exact hP) hS hx hb hr dL_tryBack_13 hlk)
