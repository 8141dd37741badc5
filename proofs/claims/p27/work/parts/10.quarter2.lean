theorem wv_lt {σ : Nat → Nat} {a b : Nat} (h : di σ a b < 99) : wv σ (12 * a + b) = nI (di σ a b) := by rw [wv_at, if_pos h]
theorem wv_ne {σ : Nat → Nat} {a b : Nat} (h : ¬ wv σ (12 * a + b) = -1) : di σ a b < 99 := by
  apply Classical.byContradiction
  intro q
  exact h (by rw [wv_at, if_neg q])
theorem wv_m1 {σ : Nat → Nat} {a b : Nat} (h : wv σ (12 * a + b) = -1) : ¬ di σ a b < 99 := by
  intro q
  rw [wv_lt q, nn_eq (by omega)] at h
  rw [h] at q
  exact absurd q (by decide)
/-- a corner can be reached from another by so many streets at most -/
def rch (σ : Nat → Nat) (a b mo : Nat) : Bool := decide (di σ a b < 99) && decide (di σ a b ≤ mo)
theorem sw_start {σ : Nat → Nat} {a : Nat} (ha : a < 12) : swOk σ a (34 * 0) (up (fun _ => 1000) a 0) := by
  refine ⟨up_s, fun v hv => ?_⟩
  by_cases h : v = a
  · subst h
    rw [up_s, di_self ha]
    exact Or.inr ⟨by omega, by omega, by omega⟩
  · exact Or.inl (up_n h)
theorem sw_next {σ : Nat → Nat} {cl a r n : Nat} {w : Nat → Nat} {ch : Bool} (hR : RC σ cl) (ha : a < 12) (hok : swOk σ a n w) (hc : ch = true) (hd : if ch = true then swD σ a r w else swD σ a 12 w) :
    if swpB cl 17 w = true then swD σ a (r + 1) (swp cl 17 w) else swD σ a 12 (swp cl 17 w) := by
  rw [if_pos hc] at hd
  by_cases h : swpB cl 17 w = true
  · rw [if_pos h]; exact swD_s hR ha hd
  · rw [if_neg h, swpB_id 17 w (by simpa using h)]
    exact swD_all hR ha hok.1 (by simpa using h) 12
theorem sw_fin {σ : Nat → Nat} {a b r n : Nat} {w : Nat → Nat} {ch : Bool} (ha : a < 12) (hb : b < 12) (hok : swOk σ a n w) (hn : n < 1000) (hd : if ch = true then swD σ a r w else swD σ a 12 w) (h : 12 ≤ r ∨ ch = false) :
    (w b = 1000 ∧ ¬ di σ a b < 99) ∨ (w b = di σ a b ∧ di σ a b < 99) := by
  apply sw_end ha hb hok hn
  rcases h with h | h
  · by_cases hc : ch = true
    · rw [if_pos hc] at hd
      exact fun v hv h9 h12 => hd v hv h9 (by omega)
    · rw [if_neg hc] at hd
      exact hd
  · rw [if_neg (by simp [h])] at hd
    exact hd
theorem sw_v1 {σ : Nat → Nat} {a b x : Nat} (h : (x = 1000 ∧ ¬ di σ a b < 99) ∨ (x = di σ a b ∧ di σ a b < 99)) (hc : x = 1000) : wv σ (12 * a + b) = -1 := by
  rw [wv_at, if_neg]
  rcases h with h | h <;> omega
theorem sw_v2 {σ : Nat → Nat} {a b x : Nat} (h : (x = 1000 ∧ ¬ di σ a b < 99) ∨ (x = di σ a b ∧ di σ a b < 99)) (hc : x ≠ 1000) : wv σ (12 * a + b) = nI x := by
  rcases h with h | h
  · exact absurd h.1 hc
  · rw [wv_lt h.2, h.1]

set_option maxHeartbeats 4000000 in
set_option maxRecDepth 100000 in
theorem c_X2_closedStreets (l : Launch) (g : va_G) (cy : Nat → ClassId) (hq hw hs : Nat) (sz : Nat) (Wv : Nat → Int32) (SW : Nat → Int32) (cl : Nat) (hcl : cl < 2 ^ 17) : Met l yX2_closedStreets (Cond.code yX2_closedStreets cX2_closedStreets 1 (some .int) :: wsL_law) ({ frames := 1, cells := 0, slots := 0, locals := 20 } : Room) (va_Pc [.ref hq] (pr g cy [(hq, .inr (2, [.ref hw, .ref hs, .int (nI cl)])), aI cy hw 144 Wv, aI cy hs 12 SW] sz)) (rd_Q (some (.int (nI (ct cl.testBit 24))))) 0 0 (nF) := by
  refine mt_of (cc := cX2_closedStreets) (maxL := 1) (ret := (some .int)) (by decide +kernel) (Nat.le_of_ble_eq_true rfl) ?_
  intro pX eX s mX below meth cX ls A hx hb hr hml hown hts hlk hin hsz hAe hA hP hD hK hX hl
  have hl : lv_has ls 1 [(0, .ref hq)] := hl
  have hS : va_S A s.heap s.heap [] := va_S.rf
  refine lv_aload_n hx hb dX2_closedStreets_0 rfl (lv_at hl 0 rfl) ?_
  refine va_get (D := g) (ci := 2) (v := .int (nI cl)) (C := RX2) (T := TX2) (N := 3) hx hb hts bgX2 hown hK hP 0 rfl rfl 2 (by decide) (hts _ wd4_10) (fun _ h9 => h9) rfl dX2_closedStreets_1 ?_
  refine rd_call (va_runS (As := [.int (nI cl)]) (rest := []) ⟨hx, hb, hml, hown, hts⟩ (c_J6_bitCount_0f7a4 l cl (by omega)) ⟨(cB 1 hts wd14_7 wd14_6 wd17_17 rfl rfl (by decide +kernel) ⟨Nat.le_of_ble_eq_true rfl, Nat.le_of_ble_eq_true rfl⟩), hts _ wd14_5⟩ p0 rfl rfl hl.1 rfl (lv_room (Nat.le_of_ble_eq_true rfl)) dX2_closedStreets_4 ⟨Nat.zero_le _, Nat.zero_le _⟩) ?_
  show W _ _ _ _ _ _ _ _ _ _ _ _ _ _ _ (F0 mX 7 ls [.int (nI (ct cl.testBit 24))])
  exact rd_i rfl hx hb hr dX2_closedStreets_7 hlk
set_option maxHeartbeats 4000000 in
set_option maxRecDepth 100000 in
theorem c_X2_wayBetween (l : Launch) (g : va_G) (cy : Nat → ClassId) (hq hw hs : Nat) (sz : Nat) (σ : Nat → Nat) (Wv : Nat → Int32) (SW : Nat → Int32) (cl : Nat) (a : Nat) (b : Nat) (hW : ∀ i9, i9 < 144 → Wv i9 = wv σ i9) (ha : a < 12) (hb9 : b < 12) : Met l yX2_wayBetween (Cond.code yX2_wayBetween cX2_wayBetween 4 (some .int) :: wsL_law) ({ frames := 0, cells := 0, slots := 0, locals := 0 } : Room) (va_Pc [.ref hq, .int (nI a), .int (nI b)] (pr g cy [(hq, .inr (2, [.ref hw, .ref hs, .int (nI cl)])), aI cy hw 144 Wv, aI cy hs 12 SW] sz)) (rd_Q (some (.int (wv σ (12 * a + b))))) 0 0 (nF) := by
  refine mt_of (cc := cX2_wayBetween) (maxL := 4) (ret := (some .int)) (by decide +kernel) (Nat.le_of_ble_eq_true rfl) ?_
  intro pX eX s mX below meth cX ls A hx hb hr hml hown hts hlk hin hsz hAe hA hP hD hK hX hl
  have hl : lv_has ls 4 [(0, .ref hq), (1, .int (nI a)), (2, .int (nI b))] := hl
  have hS : va_S A s.heap s.heap [] := va_S.rf
  refine lv_iload_n hx hb dX2_wayBetween_0 rfl (lv_at hl 1 rfl) ?_
  refine lv_bipush (v := (nI 12)) hx hb dX2_wayBetween_1 (by decide) ?_
  refine lv_imul hx hb dX2_wayBetween_3 ?_
  refine ti (pk_mul a 12) ?_
  refine lv_iload_n hx hb dX2_wayBetween_4 rfl (lv_at hl 2 rfl) ?_
  refine lv_iadd hx hb dX2_wayBetween_5 ?_
  refine ti (nI_add (a * 12) b) ?_
  refine lv_istore_n (lv' := [(3, .int (nI ((a * 12) + b))), (0, .ref hq), (1, .int (nI a)), (2, .int (nI b))]) hx hb dX2_wayBetween_6 rfl hl (by decide) rfl (fun ls hl => ?_)
  refine lv_iload_n hx hb dX2_wayBetween_7 rfl (lv_at hl 0 rfl) ?_
  refine lv_if_lt (tgt := 29) hx hb dX2_wayBetween_8 (by decide) (fun c_8 => ?_) (fun c_8 => ?_)
  · exact absurd c_8 (nI_pos (by omega))
  · skip
    refine lv_iload_n hx hb dX2_wayBetween_11 rfl (lv_at hl 0 rfl) ?_
    refine lv_aload_n hx hb dX2_wayBetween_12 rfl (lv_at hl 1 rfl) ?_
    refine va_get (D := g) (ci := 2) (v := .ref hw) (C := RX2) (T := TX2) (N := 3) hx hb hts bgX2 hown hK hP 0 rfl rfl 0 (by decide) (hts _ wd2_20) (fun _ h9 => h9) rfl dX2_wayBetween_13 ?_
    refine va_alen (v := nI 144) hx hb hK hP 1 0 rfl rfl rfl dX2_wayBetween_16 ?_
    refine lv_icmp_ge (tgt := 29) hx hb dX2_wayBetween_17 (by decide) (fun c_17 => ?_) (fun c_17 => ?_)
    · have c_17 := (nc_le (by omega) (by omega) c_17)
      omega
    · have c_17 := (nc_nle (by omega) (by omega) c_17)
      refine lv_aload_n hx hb dX2_wayBetween_20 rfl (lv_at hl 1 rfl) ?_
      refine va_get (D := g) (ci := 2) (v := .ref hw) (C := RX2) (T := TX2) (N := 3) hx hb hts bgX2 hown hK hP 0 rfl rfl 0 (by decide) (hts _ wd2_20) (fun _ h9 => h9) rfl dX2_wayBetween_21 ?_
      refine lv_iload_n hx hb dX2_wayBetween_24 rfl (lv_at hl 0 rfl) ?_
      refine va_iald hx hb hK hP 1 0 rfl rfl (vp_in_nI (n := ((a * 12) + b)) (by omega) (by omega)) dX2_wayBetween_25 ?_
      refine ti (show Wv (nI ((a * 12) + b)).toNatClampNeg = Wv ((a * 12) + b) from by rw [nI_clamp (by omega)]) ?_
      refine ti (show (Wv ((a * 12) + b)) = (wv σ (12 * a + b)) from (by rw [hW _ (by omega), Nat.mul_comm])) ?_
      refine lv_goto (tgt := 30) hx hb dX2_wayBetween_26 (by decide) ?_
      exact rd_i rfl hx hb hr dX2_wayBetween_30 hlk
set_option maxHeartbeats 4000000 in
set_option maxRecDepth 100000 in
theorem c_X2_isWithin (l : Launch) (g : va_G) (cy : Nat → ClassId) (hq hw hs : Nat) (sz : Nat) (σ : Nat → Nat) (Wv : Nat → Int32) (SW : Nat → Int32) (cl : Nat) (a : Nat) (b : Nat) (mo : Nat) (hW : ∀ i9, i9 < 144 → Wv i9 = wv σ i9) (ha : a < 12) (hb9 : b < 12) (hmo : mo < 2 ^ 31) : Met l yX2_isWithin (Cond.code yX2_isWithin cX2_isWithin 5 (some .boolean) :: wsL_law) ({ frames := 0, cells := 0, slots := 0, locals := 0 } : Room) (va_Pc [.ref hq, .int (nI a), .int (nI b), .int (nI mo)] (pr g cy [(hq, .inr (2, [.ref hw, .ref hs, .int (nI cl)])), aI cy hw 144 Wv, aI cy hs 12 SW] sz)) (rd_Q (some (.int (bI (rch σ a b mo))))) 0 0 (nF) := by
  refine mt_of (cc := cX2_isWithin) (maxL := 5) (ret := (some .boolean)) (by decide +kernel) (Nat.le_of_ble_eq_true rfl) ?_
  intro pX eX s mX below meth cX ls A hx hb hr hml hown hts hlk hin hsz hAe hA hP hD hK hX hl
  have hl : lv_has ls 5 [(0, .ref hq), (1, .int (nI a)), (2, .int (nI b)), (3, .int (nI mo))] := hl
  have hS : va_S A s.heap s.heap [] := va_S.rf
  refine lv_iload_n hx hb dX2_isWithin_0 rfl (lv_at hl 1 rfl) ?_
  refine lv_bipush (v := (nI 12)) hx hb dX2_isWithin_1 (by decide) ?_
  refine lv_imul hx hb dX2_isWithin_3 ?_
  refine ti (pk_mul a 12) ?_
  refine lv_iload_n hx hb dX2_isWithin_4 rfl (lv_at hl 2 rfl) ?_
  refine lv_iadd hx hb dX2_isWithin_5 ?_
  refine ti (nI_add (a * 12) b) ?_
  refine lv_istore (lv' := [(4, .int (nI ((a * 12) + b))), (0, .ref hq), (1, .int (nI a)), (2, .int (nI b)), (3, .int (nI mo))]) hx hb dX2_isWithin_6 hl (by decide) rfl (fun ls hl => ?_)
  refine lv_iload hx hb dX2_isWithin_8 (lv_at hl 0 rfl) ?_
  refine lv_if_lt (tgt := 49) hx hb dX2_isWithin_10 (by decide) (fun c_10 => ?_) (fun c_10 => ?_)
  · exact absurd c_10 (nI_pos (by omega))
  · skip
    refine lv_iload hx hb dX2_isWithin_13 (lv_at hl 0 rfl) ?_
    refine lv_aload_n hx hb dX2_isWithin_15 rfl (lv_at hl 1 rfl) ?_
    refine va_get (D := g) (ci := 2) (v := .ref hw) (C := RX2) (T := TX2) (N := 3) hx hb hts bgX2 hown hK hP 0 rfl rfl 0 (by decide) (hts _ wd2_20) (fun _ h9 => h9) rfl dX2_isWithin_16 ?_
    refine va_alen (v := nI 144) hx hb hK hP 1 0 rfl rfl rfl dX2_isWithin_19 ?_
    refine lv_icmp_ge (tgt := 49) hx hb dX2_isWithin_20 (by decide) (fun c_20 => ?_) (fun c_20 => ?_)
    · have c_20 := (nc_le (by omega) (by omega) c_20)
      omega
    · have c_20 := (nc_nle (by omega) (by omega) c_20)
      refine lv_aload_n hx hb dX2_isWithin_23 rfl (lv_at hl 1 rfl) ?_
      refine va_get (D := g) (ci := 2) (v := .ref hw) (C := RX2) (T := TX2) (N := 3) hx hb hts bgX2 hown hK hP 0 rfl rfl 0 (by decide) (hts _ wd2_20) (fun _ h9 => h9) rfl dX2_isWithin_24 ?_
      refine lv_iload hx hb dX2_isWithin_27 (lv_at hl 0 rfl) ?_
      refine va_iald hx hb hK hP 1 0 rfl rfl (vp_in_nI (n := ((a * 12) + b)) (by omega) (by omega)) dX2_isWithin_29 ?_
      refine ti (show Wv (nI ((a * 12) + b)).toNatClampNeg = Wv ((a * 12) + b) from by rw [nI_clamp (by omega)]) ?_
      refine ti (show (Wv ((a * 12) + b)) = (wv σ (12 * a + b)) from (by rw [hW _ (by omega), Nat.mul_comm])) ?_
      refine lv_iconst (v := (-1)) hx hb dX2_isWithin_30 (by decide) ?_
      refine lv_icmp_eq (tgt := 49) hx hb dX2_isWithin_31 (by decide) (fun c_31 => ?_) (fun c_31 => ?_)
      · skip
        have c_31 : ¬ di σ a b < 99 := wv_m1 c_31
        refine lv_iconst (v := (nI 0)) hx hb dX2_isWithin_49 (by decide) ?_
        exact rd_z (by simp [rch, bI, nI_0, nI_o, c_31]) hx hb hr dX2_isWithin_50 hlk
      · skip
        have c_31 : di σ a b < 99 := wv_ne c_31
        refine lv_aload_n hx hb dX2_isWithin_34 rfl (lv_at hl 1 rfl) ?_
        refine va_get (D := g) (ci := 2) (v := .ref hw) (C := RX2) (T := TX2) (N := 3) hx hb hts bgX2 hown hK hP 0 rfl rfl 0 (by decide) (hts _ wd2_20) (fun _ h9 => h9) rfl dX2_isWithin_35 ?_
        refine lv_iload hx hb dX2_isWithin_38 (lv_at hl 0 rfl) ?_
        refine va_iald hx hb hK hP 1 0 rfl rfl (vp_in_nI (n := ((a * 12) + b)) (by omega) (by omega)) dX2_isWithin_40 ?_
        refine ti (show Wv (nI ((a * 12) + b)).toNatClampNeg = Wv ((a * 12) + b) from by rw [nI_clamp (by omega)]) ?_
        refine ti (show (Wv ((a * 12) + b)) = (nI (di σ a b)) from (by rw [hW _ (by omega), Nat.mul_comm]; exact wv_lt c_31)) ?_
        refine lv_iload_n hx hb dX2_isWithin_41 rfl (lv_at hl 4 rfl) ?_
        refine lv_icmp_gt (tgt := 49) hx hb dX2_isWithin_42 (by decide) (fun c_42 => ?_) (fun c_42 => ?_)
        · have c_42 := (nc_lt (by omega) (by omega) c_42)
          refine lv_iconst (v := (nI 0)) hx hb dX2_isWithin_49 (by decide) ?_
          exact rd_z (by simp [rch, bI, nI_0, nI_o, c_31, Nat.not_le.mpr c_42]) hx hb hr dX2_isWithin_50 hlk
        · have c_42 := (nc_nlt (by omega) (by omega) c_42)
          refine lv_iconst (v := (nI 1)) hx hb dX2_isWithin_45 (by decide) ?_
          refine lv_goto (tgt := 50) hx hb dX2_isWithin_46 (by decide) ?_
          exact rd_z (by simp [rch, bI, nI_0, nI_o, c_31, c_42]) hx hb hr dX2_isWithin_50 hlk
set_option maxHeartbeats 4000000 in
set_option maxRecDepth 100000 in
theorem c_X2_noteWays (l : Launch) (g : va_G) (cy : Nat → ClassId) (hq hw hs : Nat) (sz : Nat) (Wv : Nat → Int32) (SW : Nat → Int32) (cl : Nat) (st : Nat) (cm : Nat) (t : Nat) (hst : st < 12) (hcm : cm < 2 ^ 12) (ht : t < 2 ^ 31) : Met l yX2_noteWays (Cond.code yX2_noteWays cX2_noteWays 6 none :: wsL_law) ({ frames := 1, cells := 0, slots := 0, locals := 21 } : Room) (va_Pc [.ref hq, .int (nI st), .int (nI cm), .int (nI t)] (pr g cy [(hq, .inr (2, [.ref hw, .ref hs, .int (nI cl)])), aI cy hw 144 Wv, aI cy hs 12 SW] sz)) (wr_Q (fun _ : Unit => none) (fun _ : Unit => True) (fun _ : Unit => [(hq, .inr (2, [.ref hw, .ref hs, .int (nI cl)])), aI cy hw 144 (nwF Wv st cm t 12), aI cy hs 12 SW]) g (va_A [(hq, .inr (2, [.ref hw, .ref hs, .int (nI cl)])), aI cy hw 144 Wv, aI cy hs 12 SW] sz)) 0 0 (va_A [(hq, .inr (2, [.ref hw, .ref hs, .int (nI cl)])), aI cy hw 144 Wv, aI cy hs 12 SW] sz) := by
  refine mt_of (cc := cX2_noteWays) (maxL := 6) (ret := none) (by decide +kernel) (Nat.le_of_ble_eq_true rfl) ?_
  intro pX eX s mX below meth cX ls A hx hb hr hml hown hts hlk hin hsz hAe hA hP hD hK hX hl
  subst hsz
  rw [← hAe]
  clear hAe
  have hl : lv_has ls 6 [(0, .ref hq), (1, .int (nI st)), (2, .int (nI cm)), (3, .int (nI t))] := hl
  have hS : va_S A s.heap s.heap [] := va_S.rf
  refine lv_iconst (v := (nI 0)) hx hb dX2_noteWays_0 (by decide) ?_
  refine lv_istore (lv' := [(4, .int (nI 0)), (0, .ref hq), (1, .int (nI st)), (2, .int (nI cm)), (3, .int (nI t))]) hx hb dX2_noteWays_1 hl (by decide) rfl (fun ls hl => ?_)
  rw [show Wv = (nwF Wv st cm t 0) from nwF_0.symm] at hP hD
  refine lp_rule (σ := (Nat)) (fun x9 H9 locs9 ls9 => va_P g vwCl [(hq, .inr (2, [.ref hw, .ref hs, .int (nI cl)])), aI cy hw 144 (nwF Wv st cm t x9), aI cy hs 12 SW] H9 ∧ va_D A [(hq, .inr (2, [.ref hw, .ref hs, .int (nI cl)])), aI cy hw 144 (nwF Wv st cm t x9), aI cy hs 12 SW] ∧ va_S A s.heap H9 locs9 ∧ lv_has ls9 6 [(0, .ref hq), (1, .int (nI st)), (2, .int (nI cm)), (3, .int (nI t)), (4, .int (nI x9))] ∧ (x9 ≤ 12)) (fun x9 => 12 - x9) (0) ⟨hP, hD, hS, lv_sub hl [1, 2, 3, 4, 0] rfl, (by omega)⟩ ?_
  rintro i H locs ls ⟨hP, hD, hS, hl, hi⟩ ih3
  try dsimp only at hl hi hP hD ih3
  refine lv_iload hx hb dX2_noteWays_3 (lv_at hl 4 rfl) ?_
  refine lv_bipush (v := (nI 12)) hx hb dX2_noteWays_5 (by decide) ?_
  refine lv_icmp_ge (tgt := 57) hx hb dX2_noteWays_7 (by decide) (fun c_7 => ?_) (fun c_7 => ?_)
  · have c_7 := (nc_le (by omega) (by omega) c_7)
    have hi12 : i = 12 := by omega
    subst hi12
    exact wr_v () rfl trivial hP hS hx hb hr dX2_noteWays_57 hlk
  · have c_7 := (nc_nle (by omega) (by omega) c_7)
    refine lv_iload_n hx hb dX2_noteWays_10 rfl (lv_at hl 1 rfl) ?_
    refine lv_bipush (v := (nI 12)) hx hb dX2_noteWays_11 (by decide) ?_
    refine lv_imul hx hb dX2_noteWays_13 ?_
    refine ti (pk_mul st 12) ?_
    refine lv_iload hx hb dX2_noteWays_14 (lv_at hl 4 rfl) ?_
    refine lv_iadd hx hb dX2_noteWays_16 ?_
    refine ti (nI_add (st * 12) i) ?_
    refine lv_istore (lv' := [(5, .int (nI ((st * 12) + i))), (0, .ref hq), (1, .int (nI st)), (2, .int (nI cm)), (3, .int (nI t)), (4, .int (nI i))]) hx hb dX2_noteWays_17 hl (by decide) rfl (fun ls hl => ?_)
    refine lv_iload_n hx hb dX2_noteWays_19 rfl (lv_at hl 3 rfl) ?_
    refine lv_iload hx hb dX2_noteWays_20 (lv_at hl 5 rfl) ?_
    refine rd_call (va_runSN (As := [.int (nI cm), .int (nI i)]) (rest := []) ⟨hx, hb, hml, hown, hts⟩ (c_X7_hasBit l cm i (by omega) (by omega)) ⟨va_cnB 2 hts (bg_call wd5_0) rfl rfl rfl (nM_4 hX) (hts _ wd1_2) (by decide +kernel) ⟨Nat.le_of_ble_eq_true rfl, Nat.le_of_ble_eq_true rfl⟩, hts _ wd4_23, trivial⟩ p0 rfl rfl hl.1 rfl (lv_room (Nat.le_of_ble_eq_true rfl)) dX2_noteWays_22 ⟨Nat.zero_le _, Nat.zero_le _⟩) ?_
    show W _ _ _ _ _ _ _ _ _ _ _ _ _ _ _ (F0 mX 25 ls [.int (bI (cm.testBit i))])
    refine lv_if_eq (tgt := 51) hx hb dX2_noteWays_25 (by decide) (fun c_25 => ?_) (fun c_25 => ?_)
    · have c_25 := (bI_eq0.mp c_25)
      rw [show (nwF Wv st cm t i) = (nwF Wv st cm t (i + 1)) from (nwF_no c_25)] at hP hD
      refine lv_iinc (v := (nI (i + 1))) (lv' := [(4, .int (nI (i + 1))), (5, .int (nI ((st * 12) + i))), (0, .ref hq), (1, .int (nI st)), (2, .int (nI cm)), (3, .int (nI t))]) hx hb dX2_noteWays_51 hl (k := 5) rfl (nI_add i 1) (by decide) rfl (fun ls hl => ?_)
      refine lv_goto (tgt := 3) hx hb dX2_noteWays_54 (by decide) ?_
      exact ih3 (i + 1) H locs ls ⟨hP, hD, hS, lv_sub hl [2, 3, 4, 5, 0] rfl, (by omega)⟩ (by first | omega | (dsimp only; omega))
    · have c_25 := (bI_ne0.mp c_25)
      refine lv_iload hx hb dX2_noteWays_28 (lv_at hl 0 rfl) ?_
      refine lv_if_lt (tgt := 51) hx hb dX2_noteWays_30 (by decide) (fun c_30 => ?_) (fun c_30 => ?_)
      · exact absurd c_30 (nI_pos (by omega))
      · skip
        refine lv_iload hx hb dX2_noteWays_33 (lv_at hl 0 rfl) ?_
        refine lv_aload_n hx hb dX2_noteWays_35 rfl (lv_at hl 1 rfl) ?_
        refine va_get (D := g) (ci := 2) (v := .ref hw) (C := RX2) (T := TX2) (N := 3) hx hb hts bgX2 hown hK hP 0 rfl rfl 0 (by decide) (hts _ wd2_20) (fun _ h9 => h9) rfl dX2_noteWays_36 ?_
        refine va_alen (v := nI 144) hx hb hK hP 1 0 rfl rfl rfl dX2_noteWays_39 ?_
        refine lv_icmp_ge (tgt := 51) hx hb dX2_noteWays_40 (by decide) (fun c_40 => ?_) (fun c_40 => ?_)
        · have c_40 := (nc_le (by omega) (by omega) c_40)
          omega
        · have c_40 := (nc_nle (by omega) (by omega) c_40)
          refine lv_aload_n hx hb dX2_noteWays_43 rfl (lv_at hl 1 rfl) ?_
          refine va_get (D := g) (ci := 2) (v := .ref hw) (C := RX2) (T := TX2) (N := 3) hx hb hts bgX2 hown hK hP 0 rfl rfl 0 (by decide) (hts _ wd2_20) (fun _ h9 => h9) rfl dX2_noteWays_44 ?_
          refine lv_iload hx hb dX2_noteWays_47 (lv_at hl 0 rfl) ?_
          refine lv_iload_n hx hb dX2_noteWays_49 rfl (lv_at hl 4 rfl) ?_
          refine va_iast hx hb hK hP hD hS 1 0 rfl rfl (vp_in_nI (n := ((st * 12) + i)) (by omega) (by omega)) dX2_noteWays_50 (fun H locs hP hD hS => ?_)
          rw [nI_clamp (n := ((st * 12) + i)) (by omega)] at hP hD
          have hP : va_P g vwCl [(hq, .inr (2, [.ref hw, .ref hs, .int (nI cl)])), aI cy hw 144 (upd (nwF Wv st cm t i) ((st * 12) + i) (nI t)), aI cy hs 12 SW] H := hP
          have hD : va_D A [(hq, .inr (2, [.ref hw, .ref hs, .int (nI cl)])), aI cy hw 144 (upd (nwF Wv st cm t i) ((st * 12) + i) (nI t)), aI cy hs 12 SW] := hD
          rw [show (upd (nwF Wv st cm t i) ((st * 12) + i) (nI t)) = (nwF Wv st cm t (i + 1)) from (nwF_put (by omega) c_25)] at hP hD
          refine lv_iinc (v := (nI (i + 1))) (lv' := [(4, .int (nI (i + 1))), (5, .int (nI ((st * 12) + i))), (0, .ref hq), (1, .int (nI st)), (2, .int (nI cm)), (3, .int (nI t))]) hx hb dX2_noteWays_51 hl (k := 5) rfl (nI_add i 1) (by decide) rfl (fun ls hl => ?_)
          refine lv_goto (tgt := 3) hx hb dX2_noteWays_54 (by decide) ?_
          exact ih3 (i + 1) H locs ls ⟨hP, hD, hS, lv_sub hl [2, 3, 4, 5, 0] rfl, (by omega)⟩ (by first | omega | (dsimp only; omega))
set_option maxHeartbeats 4000000 in
set_option maxRecDepth 100000 in
theorem c_X2_besideAnyOf (l : Launch) (g : va_G) (cy : Nat → ClassId) (hq hw hs : Nat) (sz : Nat) (Wv : Nat → Int32) (SW : Nat → Int32) (cl : Nat) (cm : Nat) (hcl : cl < 2 ^ 17) (hcm : cm < 2 ^ 12) : Met l yX2_besideAnyOf (Cond.code yX2_besideAnyOf cX2_besideAnyOf 4 (some .int) :: wsL_law) ({ frames := 1, cells := 0, slots := 0, locals := 21 } : Room) (va_Pc [.ref hq, .int (nI cm)] (pr g cy [(hq, .inr (2, [.ref hw, .ref hs, .int (nI cl)])), aI cy hw 144 Wv, aI cy hs 12 SW] sz)) (rd_Q (some (.int (nI (mk (bq cl cm 17) 12))))) 0 0 (nF) := by
  refine mt_of (cc := cX2_besideAnyOf) (maxL := 4) (ret := (some .int)) (by decide +kernel) (Nat.le_of_ble_eq_true rfl) ?_
  intro pX eX s mX below meth cX ls A hx hb hr hml hown hts hlk hin hsz hAe hA hP hD hK hX hl
  have hl : lv_has ls 4 [(0, .ref hq), (1, .int (nI cm))] := hl
  have hS : va_S A s.heap s.heap [] := va_S.rf
  refine lv_iconst (v := (nI 0)) hx hb dX2_besideAnyOf_0 (by decide) ?_
  refine lv_istore_n (lv' := [(2, .int (nI 0)), (0, .ref hq), (1, .int (nI cm))]) hx hb dX2_besideAnyOf_1 rfl hl (by decide) rfl (fun ls hl => ?_)
  refine lv_iconst (v := (nI 0)) hx hb dX2_besideAnyOf_2 (by decide) ?_
  refine lv_istore_n (lv' := [(3, .int (nI 0)), (2, .int (nI 0)), (0, .ref hq), (1, .int (nI cm))]) hx hb dX2_besideAnyOf_3 rfl hl (by decide) rfl (fun ls hl => ?_)
  refine lp_rd (σ := (Nat)) (fun x9 ls9 => lv_has ls9 4 [(0, .ref hq), (1, .int (nI cm)), (2, .int (nI (mk (bq cl cm x9) 12))), (3, .int (nI (2 * x9)))] ∧ (x9 ≤ 17)) (fun x9 => 17 - x9) (0) ⟨lv_sub hl [2, 3, 1, 0] rfl, (by omega)⟩ ?_
  rintro k ls ⟨hl, hk⟩ ih4
  try dsimp only at hl hk ih4
  refine lv_iload_n hx hb dX2_besideAnyOf_4 rfl (lv_at hl 3 rfl) ?_
  refine lv_iconst (v := (nI 1)) hx hb dX2_besideAnyOf_5 (by decide) ?_
  refine lv_iadd hx hb dX2_besideAnyOf_6 ?_
  refine ti (nI_add (2 * k) 1) ?_
  obtain ⟨tE, hZ, hT⟩ := hX.2.2.2.1
  refine va_gets hx hb hZ hS hown (hts _ wd5_5) (fun _ h9 => h9) dX2_besideAnyOf_7 ?_
  refine va_tlen (v := nI 34) hx hb hT hS rfl dX2_besideAnyOf_10 ?_
  refine lv_icmp_ge (tgt := 89) hx hb dX2_besideAnyOf_11 (by decide) (fun c_11 => ?_) (fun c_11 => ?_)
  · have c_11 := (nc_le (by omega) (by omega) c_11)
    have hk17 : k = 17 := by omega
    subst hk17
    refine lv_iload_n hx hb dX2_besideAnyOf_89 rfl (lv_at hl 2 rfl) ?_
    exact rd_i (congrArg nI (by simp [c_11])) hx hb hr dX2_besideAnyOf_90 hlk
  · have c_11 := (nc_nle (by omega) (by omega) c_11)
    refine lv_aload_n hx hb dX2_besideAnyOf_14 rfl (lv_at hl 0 rfl) ?_
    refine va_get (D := g) (ci := 2) (v := .int (nI cl)) (C := RX2) (T := TX2) (N := 3) hx hb hts bgX2 hown hK hP 0 rfl rfl 2 (by decide) (hts _ wd4_10) (fun _ h9 => h9) rfl dX2_besideAnyOf_15 ?_
    refine lv_iload_n hx hb dX2_besideAnyOf_18 rfl (lv_at hl 3 rfl) ?_
    refine lv_iconst (v := (nI 2)) hx hb dX2_besideAnyOf_19 (by decide) ?_
    refine lv_idiv hx hb dX2_besideAnyOf_20 (nI_ne0 (by omega) (by omega)) ?_
    refine ti (pk_div (a := (2 * k)) (d := 2) (by omega) (by omega) (by omega)) ?_
    refine ti (show (nI ((2 * k) / 2)) = (nI k) from (by rw [show 2 * k / 2 = k by omega])) ?_
    refine rd_call (va_runSN (As := [.int (nI cl), .int (nI k)]) (rest := []) ⟨hx, hb, hml, hown, hts⟩ (c_X7_hasBit l cl k (by omega) (by omega)) ⟨va_cnB 2 hts (bg_call wd5_0) rfl rfl rfl (nM_4 hX) (hts _ wd1_2) (by decide +kernel) ⟨Nat.le_of_ble_eq_true rfl, Nat.le_of_ble_eq_true rfl⟩, hts _ wd4_23, trivial⟩ p0 rfl rfl hl.1 rfl (lv_room (Nat.le_of_ble_eq_true rfl)) dX2_besideAnyOf_21 ⟨Nat.zero_le _, Nat.zero_le _⟩) ?_
    show W _ _ _ _ _ _ _ _ _ _ _ _ _ _ _ (F0 mX 24 ls [.int (bI (cl.testBit k))])
    refine lv_if_ne (tgt := 83) hx hb dX2_besideAnyOf_24 (by decide) (fun c_24 => ?_) (fun c_24 => ?_)
    · have c_24 := (bI_ne0.mp c_24)
      have hl : lv_has ls 4 [(0, .ref hq), (1, .int (nI cm)), (2, .int (nI (mk (bq cl cm (k + 1)) 12))), (3, .int (nI (2 * k)))] := by rw [← show (nI (mk (bq cl cm k) 12)) = (nI (mk (bq cl cm (k + 1)) 12)) from (congrArg nI (bq_skip c_24))]; exact hl
      refine lv_iinc (v := (nI ((2 * k) + 2))) (lv' := [(3, .int (nI ((2 * k) + 2))), (0, .ref hq), (1, .int (nI cm)), (2, .int (nI (mk (bq cl cm (k + 1)) 12)))]) hx hb dX2_besideAnyOf_83 hl (k := 3) rfl (nI_add (2 * k) 2) (by decide) rfl (fun ls hl => ?_)
      have hl : lv_has ls 4 [(3, .int (nI (2 * (k + 1)))), (0, .ref hq), (1, .int (nI cm)), (2, .int (nI (mk (bq cl cm (k + 1)) 12)))] := by rw [← show (nI ((2 * k) + 2)) = (nI (2 * (k + 1))) from (by rw [Nat.mul_add])]; exact hl
      refine lv_goto (tgt := 4) hx hb dX2_besideAnyOf_86 (by decide) ?_
      exact ih4 (k + 1) ls ⟨lv_sub hl [1, 2, 3, 0] rfl, (by omega)⟩ (by first | omega | (dsimp only; omega))
    · have c_24 := (bI_eq0.mp c_24)
      have hk17 : k < 17 := by omega
      have e0 := ends_lt (2 * k) (by omega)
      have e1 := ends_lt (2 * k + 1) (by omega)
      refine lv_iload_n hx hb dX2_besideAnyOf_27 rfl (lv_at hl 2 rfl) ?_
      refine lv_iload_n hx hb dX2_besideAnyOf_28 rfl (lv_at hl 1 rfl) ?_
      obtain ⟨tE, hZ, hT⟩ := hX.2.2.2.1
      refine va_gets hx hb hZ hS hown (hts _ wd5_5) (fun _ h9 => h9) dX2_besideAnyOf_29 ?_
      refine lv_iload_n hx hb dX2_besideAnyOf_32 rfl (lv_at hl 3 rfl) ?_
      refine va_ti (v := .int (nI (endsV (2 * k)))) hx hb hT hS (vp_in_nI (by omega) (by omega)) (by rw [nI_clamp (by omega)]; rfl) dX2_besideAnyOf_33 ?_
      refine rd_call (va_runSN (As := [.int (nI cm), .int (nI (endsV (2 * k)))]) (rest := [.int (nI (mk (bq cl cm k) 12))]) ⟨hx, hb, hml, hown, hts⟩ (c_X7_hasBit l cm (endsV (2 * k)) (by omega) (by omega)) ⟨va_cnB 2 hts (bg_call wd5_0) rfl rfl rfl (nM_4 hX) (hts _ wd1_2) (by decide +kernel) ⟨Nat.le_of_ble_eq_true rfl, Nat.le_of_ble_eq_true rfl⟩, hts _ wd4_23, trivial⟩ p0 rfl rfl hl.1 rfl (lv_room (Nat.le_of_ble_eq_true rfl)) dX2_besideAnyOf_34 ⟨Nat.zero_le _, Nat.zero_le _⟩) ?_
      show W _ _ _ _ _ _ _ _ _ _ _ _ _ _ _ (F0 mX 37 ls [.int (bI (cm.testBit (endsV (2 * k)))), .int (nI (mk (bq cl cm k) 12))])
      refine lv_if_eq (tgt := 52) hx hb dX2_besideAnyOf_37 (by decide) (fun c_37 => ?_) (fun c_37 => ?_)
      · have c_37 := (bI_eq0.mp c_37)
        refine lv_iconst (v := (nI 0)) hx hb dX2_besideAnyOf_52 (by decide) ?_
        refine lv_ior hx hb dX2_besideAnyOf_53 ?_
        refine ti (nx_or (mk (bq cl cm k) 12) 0) ?_
        refine lv_istore_n (lv' := [(2, .int (nI ((mk (bq cl cm k) 12) ||| 0))), (0, .ref hq), (1, .int (nI cm)), (3, .int (nI (2 * k)))]) hx hb dX2_besideAnyOf_54 rfl hl (by decide) rfl (fun ls hl => ?_)
        refine lv_iload_n hx hb dX2_besideAnyOf_55 rfl (lv_at hl 0 rfl) ?_
        refine lv_iload_n hx hb dX2_besideAnyOf_56 rfl (lv_at hl 2 rfl) ?_
        obtain ⟨tE, hZ, hT⟩ := hX.2.2.2.1
        refine va_gets hx hb hZ hS hown (hts _ wd5_5) (fun _ h9 => h9) dX2_besideAnyOf_57 ?_
        refine lv_iload_n hx hb dX2_besideAnyOf_60 rfl (lv_at hl 3 rfl) ?_
        refine lv_iconst (v := (nI 1)) hx hb dX2_besideAnyOf_61 (by decide) ?_
        refine lv_iadd hx hb dX2_besideAnyOf_62 ?_
        refine ti (nI_add (2 * k) 1) ?_
        refine va_ti (v := .int (nI (endsV ((2 * k) + 1)))) hx hb hT hS (vp_in_nI (by omega) (by omega)) (by rw [nI_clamp (by omega)]; rfl) dX2_besideAnyOf_63 ?_
        refine rd_call (va_runSN (As := [.int (nI cm), .int (nI (endsV ((2 * k) + 1)))]) (rest := [.int (nI ((mk (bq cl cm k) 12) ||| 0))]) ⟨hx, hb, hml, hown, hts⟩ (c_X7_hasBit l cm (endsV ((2 * k) + 1)) (by omega) (by omega)) ⟨va_cnB 2 hts (bg_call wd5_0) rfl rfl rfl (nM_4 hX) (hts _ wd1_2) (by decide +kernel) ⟨Nat.le_of_ble_eq_true rfl, Nat.le_of_ble_eq_true rfl⟩, hts _ wd4_23, trivial⟩ p0 rfl rfl hl.1 rfl (lv_room (Nat.le_of_ble_eq_true rfl)) dX2_besideAnyOf_64 ⟨Nat.zero_le _, Nat.zero_le _⟩) ?_
        show W _ _ _ _ _ _ _ _ _ _ _ _ _ _ _ (F0 mX 67 ls [.int (bI (cm.testBit (endsV ((2 * k) + 1)))), .int (nI ((mk (bq cl cm k) 12) ||| 0))])
        refine lv_if_eq (tgt := 80) hx hb dX2_besideAnyOf_67 (by decide) (fun c_67 => ?_) (fun c_67 => ?_)
        · have c_67 := (bI_eq0.mp c_67)
          refine lv_iconst (v := (nI 0)) hx hb dX2_besideAnyOf_80 (by decide) ?_
          refine lv_ior hx hb dX2_besideAnyOf_81 ?_
          refine ti (nx_or ((mk (bq cl cm k) 12) ||| 0) 0) ?_
          refine lv_istore_n (lv' := [(2, .int (nI (((mk (bq cl cm k) 12) ||| 0) ||| 0))), (0, .ref hq), (1, .int (nI cm)), (3, .int (nI (2 * k)))]) hx hb dX2_besideAnyOf_82 rfl hl (by decide) rfl (fun ls hl => ?_)
          have hl : lv_has ls 4 [(2, .int (nI (mk (bq cl cm (k + 1)) 12))), (0, .ref hq), (1, .int (nI cm)), (3, .int (nI (2 * k)))] := by rw [← show (nI (((mk (bq cl cm k) 12) ||| 0) ||| 0)) = (nI (mk (bq cl cm (k + 1)) 12)) from (congrArg nI (bq_or (by omega) c_24 (by simp [eA, c_37, eB]) (by simp [eB, c_67, eA])))]; exact hl
          refine lv_iinc (v := (nI ((2 * k) + 2))) (lv' := [(3, .int (nI ((2 * k) + 2))), (2, .int (nI (mk (bq cl cm (k + 1)) 12))), (0, .ref hq), (1, .int (nI cm))]) hx hb dX2_besideAnyOf_83 hl (k := 3) rfl (nI_add (2 * k) 2) (by decide) rfl (fun ls hl => ?_)
          have hl : lv_has ls 4 [(3, .int (nI (2 * (k + 1)))), (2, .int (nI (mk (bq cl cm (k + 1)) 12))), (0, .ref hq), (1, .int (nI cm))] := by rw [← show (nI ((2 * k) + 2)) = (nI (2 * (k + 1))) from (by rw [Nat.mul_add])]; exact hl
          refine lv_goto (tgt := 4) hx hb dX2_besideAnyOf_86 (by decide) ?_
          exact ih4 (k + 1) ls ⟨lv_sub hl [2, 3, 1, 0] rfl, (by omega)⟩ (by first | omega | (dsimp only; omega))
        · have c_67 := (bI_ne0.mp c_67)
          refine lv_iconst (v := (nI 1)) hx hb dX2_besideAnyOf_70 (by decide) ?_
          obtain ⟨tE, hZ, hT⟩ := hX.2.2.2.1
          refine va_gets hx hb hZ hS hown (hts _ wd5_5) (fun _ h9 => h9) dX2_besideAnyOf_71 ?_
          refine lv_iload_n hx hb dX2_besideAnyOf_74 rfl (lv_at hl 3 rfl) ?_
          refine va_ti (v := .int (nI (endsV (2 * k)))) hx hb hT hS (vp_in_nI (by omega) (by omega)) (by rw [nI_clamp (by omega)]; rfl) dX2_besideAnyOf_75 ?_
          refine lv_ishl hx hb dX2_besideAnyOf_76 ?_
          refine ti (nb_shl (k := (endsV (2 * k))) (by omega)) ?_
          refine lv_goto (tgt := 81) hx hb dX2_besideAnyOf_77 (by decide) ?_
          refine lv_ior hx hb dX2_besideAnyOf_81 ?_
          refine ti (nx_or ((mk (bq cl cm k) 12) ||| 0) (2 ^ (endsV (2 * k)))) ?_
          refine lv_istore_n (lv' := [(2, .int (nI (((mk (bq cl cm k) 12) ||| 0) ||| (2 ^ (endsV (2 * k)))))), (0, .ref hq), (1, .int (nI cm)), (3, .int (nI (2 * k)))]) hx hb dX2_besideAnyOf_82 rfl hl (by decide) rfl (fun ls hl => ?_)
          have hl : lv_has ls 4 [(2, .int (nI (mk (bq cl cm (k + 1)) 12))), (0, .ref hq), (1, .int (nI cm)), (3, .int (nI (2 * k)))] := by rw [← show (nI (((mk (bq cl cm k) 12) ||| 0) ||| (2 ^ (endsV (2 * k))))) = (nI (mk (bq cl cm (k + 1)) 12)) from (congrArg nI (bq_or (by omega) c_24 (by simp [eA, c_37, eB]) (by simp [eB, c_67, eA])))]; exact hl
          refine lv_iinc (v := (nI ((2 * k) + 2))) (lv' := [(3, .int (nI ((2 * k) + 2))), (2, .int (nI (mk (bq cl cm (k + 1)) 12))), (0, .ref hq), (1, .int (nI cm))]) hx hb dX2_besideAnyOf_83 hl (k := 3) rfl (nI_add (2 * k) 2) (by decide) rfl (fun ls hl => ?_)
          have hl : lv_has ls 4 [(3, .int (nI (2 * (k + 1)))), (2, .int (nI (mk (bq cl cm (k + 1)) 12))), (0, .ref hq), (1, .int (nI cm))] := by rw [← show (nI ((2 * k) + 2)) = (nI (2 * (k + 1))) from (by rw [Nat.mul_add])]; exact hl
          refine lv_goto (tgt := 4) hx hb dX2_besideAnyOf_86 (by decide) ?_
          exact ih4 (k + 1) ls ⟨lv_sub hl [2, 3, 1, 0] rfl, (by omega)⟩ (by first | omega | (dsimp only; omega))
      · have c_37 := (bI_ne0.mp c_37)
        refine lv_iconst (v := (nI 1)) hx hb dX2_besideAnyOf_40 (by decide) ?_
        obtain ⟨tE, hZ, hT⟩ := hX.2.2.2.1
        refine va_gets hx hb hZ hS hown (hts _ wd5_5) (fun _ h9 => h9) dX2_besideAnyOf_41 ?_
        refine lv_iload_n hx hb dX2_besideAnyOf_44 rfl (lv_at hl 3 rfl) ?_
        refine lv_iconst (v := (nI 1)) hx hb dX2_besideAnyOf_45 (by decide) ?_
        refine lv_iadd hx hb dX2_besideAnyOf_46 ?_
        refine ti (nI_add (2 * k) 1) ?_
        refine va_ti (v := .int (nI (endsV ((2 * k) + 1)))) hx hb hT hS (vp_in_nI (by omega) (by omega)) (by rw [nI_clamp (by omega)]; rfl) dX2_besideAnyOf_47 ?_
        refine lv_ishl hx hb dX2_besideAnyOf_48 ?_
        refine ti (nb_shl (k := (endsV ((2 * k) + 1))) (by omega)) ?_
        refine lv_goto (tgt := 53) hx hb dX2_besideAnyOf_49 (by decide) ?_
        refine lv_ior hx hb dX2_besideAnyOf_53 ?_
        refine ti (nx_or (mk (bq cl cm k) 12) (2 ^ (endsV ((2 * k) + 1)))) ?_
        refine lv_istore_n (lv' := [(2, .int (nI ((mk (bq cl cm k) 12) ||| (2 ^ (endsV ((2 * k) + 1)))))), (0, .ref hq), (1, .int (nI cm)), (3, .int (nI (2 * k)))]) hx hb dX2_besideAnyOf_54 rfl hl (by decide) rfl (fun ls hl => ?_)
        refine lv_iload_n hx hb dX2_besideAnyOf_55 rfl (lv_at hl 0 rfl) ?_
        refine lv_iload_n hx hb dX2_besideAnyOf_56 rfl (lv_at hl 2 rfl) ?_
        obtain ⟨tE, hZ, hT⟩ := hX.2.2.2.1
        refine va_gets hx hb hZ hS hown (hts _ wd5_5) (fun _ h9 => h9) dX2_besideAnyOf_57 ?_
        refine lv_iload_n hx hb dX2_besideAnyOf_60 rfl (lv_at hl 3 rfl) ?_
        refine lv_iconst (v := (nI 1)) hx hb dX2_besideAnyOf_61 (by decide) ?_
        refine lv_iadd hx hb dX2_besideAnyOf_62 ?_
        refine ti (nI_add (2 * k) 1) ?_
        refine va_ti (v := .int (nI (endsV ((2 * k) + 1)))) hx hb hT hS (vp_in_nI (by omega) (by omega)) (by rw [nI_clamp (by omega)]; rfl) dX2_besideAnyOf_63 ?_
        refine rd_call (va_runSN (As := [.int (nI cm), .int (nI (endsV ((2 * k) + 1)))]) (rest := [.int (nI ((mk (bq cl cm k) 12) ||| (2 ^ (endsV ((2 * k) + 1)))))]) ⟨hx, hb, hml, hown, hts⟩ (c_X7_hasBit l cm (endsV ((2 * k) + 1)) (by omega) (by omega)) ⟨va_cnB 2 hts (bg_call wd5_0) rfl rfl rfl (nM_4 hX) (hts _ wd1_2) (by decide +kernel) ⟨Nat.le_of_ble_eq_true rfl, Nat.le_of_ble_eq_true rfl⟩, hts _ wd4_23, trivial⟩ p0 rfl rfl hl.1 rfl (lv_room (Nat.le_of_ble_eq_true rfl)) dX2_besideAnyOf_64 ⟨Nat.zero_le _, Nat.zero_le _⟩) ?_
        show W _ _ _ _ _ _ _ _ _ _ _ _ _ _ _ (F0 mX 67 ls [.int (bI (cm.testBit (endsV ((2 * k) + 1)))), .int (nI ((mk (bq cl cm k) 12) ||| (2 ^ (endsV ((2 * k) + 1)))))])
        refine lv_if_eq (tgt := 80) hx hb dX2_besideAnyOf_67 (by decide) (fun c_67 => ?_) (fun c_67 => ?_)
        · have c_67 := (bI_eq0.mp c_67)
          refine lv_iconst (v := (nI 0)) hx hb dX2_besideAnyOf_80 (by decide) ?_
          refine lv_ior hx hb dX2_besideAnyOf_81 ?_
          refine ti (nx_or ((mk (bq cl cm k) 12) ||| (2 ^ (endsV ((2 * k) + 1)))) 0) ?_
          refine lv_istore_n (lv' := [(2, .int (nI (((mk (bq cl cm k) 12) ||| (2 ^ (endsV ((2 * k) + 1)))) ||| 0))), (0, .ref hq), (1, .int (nI cm)), (3, .int (nI (2 * k)))]) hx hb dX2_besideAnyOf_82 rfl hl (by decide) rfl (fun ls hl => ?_)
          have hl : lv_has ls 4 [(2, .int (nI (mk (bq cl cm (k + 1)) 12))), (0, .ref hq), (1, .int (nI cm)), (3, .int (nI (2 * k)))] := by rw [← show (nI (((mk (bq cl cm k) 12) ||| (2 ^ (endsV ((2 * k) + 1)))) ||| 0)) = (nI (mk (bq cl cm (k + 1)) 12)) from (congrArg nI (bq_or (by omega) c_24 (by simp [eA, c_37, eB]) (by simp [eB, c_67, eA])))]; exact hl
          refine lv_iinc (v := (nI ((2 * k) + 2))) (lv' := [(3, .int (nI ((2 * k) + 2))), (2, .int (nI (mk (bq cl cm (k + 1)) 12))), (0, .ref hq), (1, .int (nI cm))]) hx hb dX2_besideAnyOf_83 hl (k := 3) rfl (nI_add (2 * k) 2) (by decide) rfl (fun ls hl => ?_)
          have hl : lv_has ls 4 [(3, .int (nI (2 * (k + 1)))), (2, .int (nI (mk (bq cl cm (k + 1)) 12))), (0, .ref hq), (1, .int (nI cm))] := by rw [← show (nI ((2 * k) + 2)) = (nI (2 * (k + 1))) from (by rw [Nat.mul_add])]; exact hl
          refine lv_goto (tgt := 4) hx hb dX2_besideAnyOf_86 (by decide) ?_
          exact ih4 (k + 1) ls ⟨lv_sub hl [2, 3, 1, 0] rfl, (by omega)⟩ (by first | omega | (dsimp only; omega))
        · have c_67 := (bI_ne0.mp c_67)
          refine lv_iconst (v := (nI 1)) hx hb dX2_besideAnyOf_70 (by decide) ?_
          obtain ⟨tE, hZ, hT⟩ := hX.2.2.2.1
          refine va_gets hx hb hZ hS hown (hts _ wd5_5) (fun _ h9 => h9) dX2_besideAnyOf_71 ?_
          refine lv_iload_n hx hb dX2_besideAnyOf_74 rfl (lv_at hl 3 rfl) ?_
          refine va_ti (v := .int (nI (endsV (2 * k)))) hx hb hT hS (vp_in_nI (by omega) (by omega)) (by rw [nI_clamp (by omega)]; rfl) dX2_besideAnyOf_75 ?_
          refine lv_ishl hx hb dX2_besideAnyOf_76 ?_
          refine ti (nb_shl (k := (endsV (2 * k))) (by omega)) ?_
          refine lv_goto (tgt := 81) hx hb dX2_besideAnyOf_77 (by decide) ?_
          refine lv_ior hx hb dX2_besideAnyOf_81 ?_
          refine ti (nx_or ((mk (bq cl cm k) 12) ||| (2 ^ (endsV ((2 * k) + 1)))) (2 ^ (endsV (2 * k)))) ?_
          refine lv_istore_n (lv' := [(2, .int (nI (((mk (bq cl cm k) 12) ||| (2 ^ (endsV ((2 * k) + 1)))) ||| (2 ^ (endsV (2 * k)))))), (0, .ref hq), (1, .int (nI cm)), (3, .int (nI (2 * k)))]) hx hb dX2_besideAnyOf_82 rfl hl (by decide) rfl (fun ls hl => ?_)
          have hl : lv_has ls 4 [(2, .int (nI (mk (bq cl cm (k + 1)) 12))), (0, .ref hq), (1, .int (nI cm)), (3, .int (nI (2 * k)))] := by rw [← show (nI (((mk (bq cl cm k) 12) ||| (2 ^ (endsV ((2 * k) + 1)))) ||| (2 ^ (endsV (2 * k))))) = (nI (mk (bq cl cm (k + 1)) 12)) from (congrArg nI (bq_or (by omega) c_24 (by simp [eA, c_37, eB]) (by simp [eB, c_67, eA])))]; exact hl
          refine lv_iinc (v := (nI ((2 * k) + 2))) (lv' := [(3, .int (nI ((2 * k) + 2))), (2, .int (nI (mk (bq cl cm (k + 1)) 12))), (0, .ref hq), (1, .int (nI cm))]) hx hb dX2_besideAnyOf_83 hl (k := 3) rfl (nI_add (2 * k) 2) (by decide) rfl (fun ls hl => ?_)
          have hl : lv_has ls 4 [(3, .int (nI (2 * (k + 1)))), (2, .int (nI (mk (bq cl cm (k + 1)) 12))), (0, .ref hq), (1, .int (nI cm))] := by rw [← show (nI ((2 * k) + 2)) = (nI (2 * (k + 1))) from (by rw [Nat.mul_add])]; exact hl
          refine lv_goto (tgt := 4) hx hb dX2_besideAnyOf_86 (by decide) ?_
          exact ih4 (k + 1) ls ⟨lv_sub hl [2, 3, 1, 0] rfl, (by omega)⟩ (by first | omega | (dsimp only; omega))
set_option maxHeartbeats 4000000 in
set_option maxRecDepth 100000 in
theorem c_X2_measureAll (l : Launch) (g : va_G) (cy : Nat → ClassId) (hq hw hs : Nat) (sz : Nat) (σ : Nat → Nat) (Wv : Nat → Int32) (SW : Nat → Int32) (cl : Nat) (hR : RC σ cl) : Met l yX2_measureAll (Cond.code yX2_measureAll cX2_measureAll 5 none :: wsL_law) ({ frames := 2, cells := 0, slots := 0, locals := 46 } : Room) (va_Pc [.ref hq] (pr g cy [(hq, .inr (2, [.ref hw, .ref hs, .int (nI cl)])), aI cy hw 144 Wv, aI cy hs 12 SW] sz)) (wr_Q (fun W1 : Nat → Int32 => none) (fun W1 : Nat → Int32 => (∀ i9, i9 < 144 → W1 i9 = wv σ i9)) (fun W1 : Nat → Int32 => [(hq, .inr (2, [.ref hw, .ref hs, .int (nI cl)])), aI cy hw 144 W1, aI cy hs 12 SW]) g (va_A [(hq, .inr (2, [.ref hw, .ref hs, .int (nI cl)])), aI cy hw 144 Wv, aI cy hs 12 SW] sz)) 0 0 (va_A [(hq, .inr (2, [.ref hw, .ref hs, .int (nI cl)])), aI cy hw 144 Wv, aI cy hs 12 SW] sz) := by
  refine mt_of (cc := cX2_measureAll) (maxL := 5) (ret := none) (by decide +kernel) (Nat.le_of_ble_eq_true rfl) ?_
  intro pX eX s mX below meth cX ls A hx hb hr hml hown hts hlk hin hsz hAe hA hP hD hK hX hl
  subst hsz
  rw [← hAe]
  clear hAe
  have hl : lv_has ls 5 [(0, .ref hq)] := hl
  have hS : va_S A s.heap s.heap [] := va_S.rf
  have hcl := hR.1
  refine lv_aload_n hx hb dX2_measureAll_0 rfl (lv_at hl 0 rfl) ?_
  refine va_get (D := g) (ci := 2) (v := .ref hw) (C := RX2) (T := TX2) (N := 3) hx hb hts bgX2 hown hK hP 0 rfl rfl 0 (by decide) (hts _ wd2_20) (fun _ h9 => h9) rfl dX2_measureAll_1 ?_
  refine lv_iconst (v := (-1)) hx hb dX2_measureAll_4 (by decide) ?_
  refine wr_call (wc := [aI cy hw 144 Wv]) (va_runS (As := [.ref hw, .int (-1)]) (rest := []) ⟨hx, hb, hml, hown, hts⟩ (c_J7_fill_53178 l g cy hw s.heap.size 144 Wv (-1) (by omega)) ⟨(cB 2 hts wd4_18 wd4_17 wd4_15 rfl rfl (by decide +kernel) ⟨Nat.le_of_ble_eq_true rfl, Nat.le_of_ble_eq_true rfl⟩), hts _ wd4_16⟩ (ps hK hP hD hS hA hX [1] rfl rfl) rfl rfl hl.1 rfl (lv_room (Nat.le_of_ble_eq_true rfl)) dX2_measureAll_5 ⟨Nat.zero_le _, Nat.zero_le _⟩) hP hD hS hA [1] rfl rfl (fun _ => rfl) ?_
  rintro _u9 H locs - hP hD hS
  have hP : va_P g vwCl [(hq, .inr (2, [.ref hw, .ref hs, .int (nI cl)])), aI cy hw 144 (fun _ => (-1)), aI cy hs 12 SW] H := hP
  have hD : va_D A [(hq, .inr (2, [.ref hw, .ref hs, .int (nI cl)])), aI cy hw 144 (fun _ => (-1)), aI cy hs 12 SW] := hD
  show W _ _ _ _ _ _ _ _ _ _ _ _ _ _ _ (F0 mX 8 ls [])
  refine lv_iconst (v := (nI 0)) hx hb dX2_measureAll_8 (by decide) ?_
  refine lv_istore_n (lv' := [(1, .int (nI 0)), (0, .ref hq)]) hx hb dX2_measureAll_9 rfl hl (by decide) rfl (fun ls hl => ?_)
  refine lp_rule (σ := (Nat) × (Nat → Int32)) (fun x9 H9 locs9 ls9 => va_P g vwCl [(hq, .inr (2, [.ref hw, .ref hs, .int (nI cl)])), aI cy hw 144 x9.2, aI cy hs 12 SW] H9 ∧ va_D A [(hq, .inr (2, [.ref hw, .ref hs, .int (nI cl)])), aI cy hw 144 x9.2, aI cy hs 12 SW] ∧ va_S A s.heap H9 locs9 ∧ lv_has ls9 5 [(0, .ref hq), (1, .int (nI x9.1))] ∧ (x9.1 ≤ 12) ∧ (wI σ x9.1 0 x9.2)) (fun x9 => 12 - x9.1) (0, (fun _ => -1)) ⟨hP, hD, hS, lv_sub hl [1, 0] rfl, (by omega), (wI_0 (fun _ _ => rfl))⟩ ?_
  rintro ⟨i, V⟩ H locs ls ⟨hP, hD, hS, hl, hi, hV⟩ ih10
  try dsimp only at hl hi hV hP hD ih10
  refine lv_iload_n hx hb dX2_measureAll_10 rfl (lv_at hl 1 rfl) ?_
  refine lv_bipush (v := (nI 12)) hx hb dX2_measureAll_11 (by decide) ?_
  refine lv_icmp_ge (tgt := 70) hx hb dX2_measureAll_13 (by decide) (fun c_13 => ?_) (fun c_13 => ?_)
  · have c_13 := (nc_le (by omega) (by omega) c_13)
    have hi12 : i = 12 := by omega
    subst hi12
    exact wr_v V rfl (wI_end hV) hP hS hx hb hr dX2_measureAll_70 hlk
  · have c_13 := (nc_nle (by omega) (by omega) c_13)
    refine lv_iconst (v := (nI 0)) hx hb dX2_measureAll_16 (by decide) ?_
    refine lv_istore_n (lv' := [(2, .int (nI 0)), (0, .ref hq), (1, .int (nI i))]) hx hb dX2_measureAll_17 rfl hl (by decide) rfl (fun ls hl => ?_)
    refine lv_iconst (v := (nI 1)) hx hb dX2_measureAll_18 (by decide) ?_
    refine lv_iload_n hx hb dX2_measureAll_19 rfl (lv_at hl 2 rfl) ?_
    refine lv_ishl hx hb dX2_measureAll_20 ?_
    refine ti (nb_shl (k := i) (by omega)) ?_
    refine lv_istore_n (lv' := [(3, .int (nI (2 ^ i))), (2, .int (nI 0)), (0, .ref hq), (1, .int (nI i))]) hx hb dX2_measureAll_21 rfl hl (by decide) rfl (fun ls hl => ?_)
    refine lv_iconst (v := (nI 0)) hx hb dX2_measureAll_22 (by decide) ?_
    refine lv_istore (lv' := [(4, .int (nI 0)), (3, .int (nI (2 ^ i))), (2, .int (nI 0)), (0, .ref hq), (1, .int (nI i))]) hx hb dX2_measureAll_23 hl (by decide) rfl (fun ls hl => ?_)
    have hl : lv_has ls 5 [(4, .int (nI 0)), (3, .int (nI (2 ^ i))), (2, .int (nI (mk (lvR σ i 0) 12))), (0, .ref hq), (1, .int (nI i))] := by rw [← show (nI 0) = (nI (mk (lvR σ i 0) 12)) from (congrArg nI (mk_zero.mpr (fun v _ => by simp [lvR])).symm)]; exact hl
    have hl : lv_has ls 5 [(4, .int (nI 0)), (3, .int (nI (mk (lvE σ i 0) 12))), (2, .int (nI (mk (lvR σ i 0) 12))), (0, .ref hq), (1, .int (nI i))] := by rw [← show (nI (2 ^ i)) = (nI (mk (lvE σ i 0) 12)) from (congrArg nI (lv_0 (by omega)))]; exact hl
    refine lp_rule (σ := (Nat) × (Nat → Int32)) (fun x9 H9 locs9 ls9 => va_P g vwCl [(hq, .inr (2, [.ref hw, .ref hs, .int (nI cl)])), aI cy hw 144 x9.2, aI cy hs 12 SW] H9 ∧ va_D A [(hq, .inr (2, [.ref hw, .ref hs, .int (nI cl)])), aI cy hw 144 x9.2, aI cy hs 12 SW] ∧ va_S A s.heap H9 locs9 ∧ lv_has ls9 5 [(0, .ref hq), (1, .int (nI i)), (2, .int (nI (mk (lvR σ i x9.1) 12))), (3, .int (nI (mk (lvE σ i x9.1) 12))), (4, .int (nI x9.1))] ∧ (x9.1 ≤ 12) ∧ (wI σ i x9.1 x9.2)) (fun x9 => 12 - x9.1) (0, V) ⟨hP, hD, hS, lv_sub hl [3, 4, 2, 1, 0] rfl, (by omega), hV⟩ ?_
    rintro ⟨t, U⟩ H locs ls ⟨hP, hD, hS, hl, ht, hU⟩ ih25
    try dsimp only at hl ht hU hP hD ih25
    refine lv_iload hx hb dX2_measureAll_25 (lv_at hl 4 rfl) ?_
    refine lv_bipush (v := (nI 12)) hx hb dX2_measureAll_27 (by decide) ?_
    refine lv_icmp_ge (tgt := 64) hx hb dX2_measureAll_29 (by decide) (fun c_29 => ?_) (fun c_29 => ?_)
    · have c_29 := (nc_le (by omega) (by omega) c_29)
      refine lv_iinc (v := (nI (i + 1))) (lv' := [(1, .int (nI (i + 1))), (0, .ref hq), (2, .int (nI (mk (lvR σ i t) 12))), (3, .int (nI (mk (lvE σ i t) 12))), (4, .int (nI t))]) hx hb dX2_measureAll_64 hl (k := 1) rfl (nI_add i 1) (by decide) rfl (fun ls hl => ?_)
      refine lv_goto (tgt := 10) hx hb dX2_measureAll_67 (by decide) ?_
      exact ih10 (i + 1, U) H locs ls ⟨hP, hD, hS, lv_sub hl [1, 0] rfl, (by omega), (wI_row (by omega) hU (by omega) (fun v hv => lv_end (by omega) hv (Or.inl (by omega))))⟩ (by first | omega | (dsimp only; omega))
    · have c_29 := (nc_nle (by omega) (by omega) c_29)
      have hE : mk (lvE σ i t) 12 < 2 ^ 12 := mk_lt _ _
      refine lv_iload_n hx hb dX2_measureAll_32 rfl (lv_at hl 3 rfl) ?_
      refine lv_if_eq (tgt := 64) hx hb dX2_measureAll_33 (by decide) (fun c_33 => ?_) (fun c_33 => ?_)
      · have c_33 := (nz_eq c_33 (by omega))
        refine lv_iinc (v := (nI (i + 1))) (lv' := [(1, .int (nI (i + 1))), (0, .ref hq), (2, .int (nI (mk (lvR σ i t) 12))), (3, .int (nI (mk (lvE σ i t) 12))), (4, .int (nI t))]) hx hb dX2_measureAll_64 hl (k := 1) rfl (nI_add i 1) (by decide) rfl (fun ls hl => ?_)
        refine lv_goto (tgt := 10) hx hb dX2_measureAll_67 (by decide) ?_
        exact ih10 (i + 1, U) H locs ls ⟨hP, hD, hS, lv_sub hl [1, 0] rfl, (by omega), (wI_row (by omega) hU (by omega) (fun v hv => lv_end (by omega) hv (Or.inr c_33)))⟩ (by first | omega | (dsimp only; omega))
      · have c_33 := (nz_ne c_33 (by omega))
        refine lv_aload_n hx hb dX2_measureAll_36 rfl (lv_at hl 0 rfl) ?_
        refine lv_iload_n hx hb dX2_measureAll_37 rfl (lv_at hl 1 rfl) ?_
        refine lv_iload_n hx hb dX2_measureAll_38 rfl (lv_at hl 3 rfl) ?_
        refine lv_iload hx hb dX2_measureAll_39 (lv_at hl 4 rfl) ?_
        refine wr_call (wc := [(hq, .inr (2, [.ref hw, .ref hs, .int (nI cl)])), aI cy hw 144 U, aI cy hs 12 SW]) (va_runV (As := [.int (nI i), .int (nI (mk (lvE σ i t) 12)), .int (nI t)]) (rest := []) ⟨hx, hb, hml, hown, hts⟩ (c_X2_noteWays l g cy hq hw hs H.size U SW cl i (mk (lvE σ i t) 12) t (by omega) (by omega) (by omega)) ⟨(cB 3 hts wd4_22 wd2_7 wd4_19 rfl rfl (by decide +kernel) ⟨Nat.le_of_ble_eq_true rfl, Nat.le_of_ble_eq_true rfl⟩), hts _ wd4_20, hts _ wd4_21⟩ (pv hK hP hD hS hA hX [0, 1, 2] rfl rfl 2 0 rfl rfl) rfl rfl hl.1 rfl (lv_room (Nat.le_of_ble_eq_true rfl)) dX2_measureAll_41 ⟨Nat.zero_le _, Nat.zero_le _⟩) hP hD hS hA [0, 1, 2] rfl rfl (fun _ => rfl) ?_
        rintro _u9 H locs - hP hD hS
        have hP : va_P g vwCl [(hq, .inr (2, [.ref hw, .ref hs, .int (nI cl)])), aI cy hw 144 (nwF U i (mk (lvE σ i t) 12) t 12), aI cy hs 12 SW] H := hP
        have hD : va_D A [(hq, .inr (2, [.ref hw, .ref hs, .int (nI cl)])), aI cy hw 144 (nwF U i (mk (lvE σ i t) 12) t 12), aI cy hs 12 SW] := hD
        show W _ _ _ _ _ _ _ _ _ _ _ _ _ _ _ (F0 mX 44 ls [])
        refine lv_iload_n hx hb dX2_measureAll_44 rfl (lv_at hl 2 rfl) ?_
        refine lv_iload_n hx hb dX2_measureAll_45 rfl (lv_at hl 3 rfl) ?_
        refine lv_ior hx hb dX2_measureAll_46 ?_
        refine ti (nx_or (mk (lvR σ i t) 12) (mk (lvE σ i t) 12)) ?_
        refine ti (show (nI ((mk (lvR σ i t) 12) ||| (mk (lvE σ i t) 12))) = (nI (mk (lvR σ i (t + 1)) 12)) from (congrArg nI lv_R)) ?_
        refine lv_istore_n (lv' := [(2, .int (nI (mk (lvR σ i (t + 1)) 12))), (0, .ref hq), (1, .int (nI i)), (3, .int (nI (mk (lvE σ i t) 12))), (4, .int (nI t))]) hx hb dX2_measureAll_47 rfl hl (by decide) rfl (fun ls hl => ?_)
        refine lv_aload_n hx hb dX2_measureAll_48 rfl (lv_at hl 1 rfl) ?_
        refine lv_iload_n hx hb dX2_measureAll_49 rfl (lv_at hl 3 rfl) ?_
        refine rd_call (va_runV (As := [.int (nI (mk (lvE σ i t) 12))]) (rest := []) ⟨hx, hb, hml, hown, hts⟩ (c_X2_besideAnyOf l g cy hq hw hs H.size (nwF U i (mk (lvE σ i t) 12) t 12) SW cl (mk (lvE σ i t) 12) (by omega) (by omega)) ⟨(cB 1 hts wd5_4 wd2_7 wd5_1 rfl rfl (by decide +kernel) ⟨Nat.le_of_ble_eq_true rfl, Nat.le_of_ble_eq_true rfl⟩), hts _ wd5_2, hts _ wd5_3⟩ (pv hK hP hD hS hA hX [0, 1, 2] rfl rfl 2 0 rfl rfl) rfl rfl hl.1 rfl (lv_room (Nat.le_of_ble_eq_true rfl)) dX2_measureAll_50 ⟨Nat.zero_le _, Nat.zero_le _⟩) ?_
        show W _ _ _ _ _ _ _ _ _ _ _ _ _ _ _ (F0 mX 53 ls [.int (nI (mk (bq cl (mk (lvE σ i t) 12) 17) 12))])
        refine lv_iload_n hx hb dX2_measureAll_53 rfl (lv_at hl 0 rfl) ?_
        refine lv_iconst (v := (-1)) hx hb dX2_measureAll_54 (by decide) ?_
        refine lv_ixor hx hb dX2_measureAll_55 ?_
        refine lv_iand hx hb dX2_measureAll_56 ?_
        refine ti (show ((nI (mk (bq cl (mk (lvE σ i t) 12) 17) 12)) &&& ((nI (mk (lvR σ i (t + 1)) 12)) ^^^ (-1))) = (nI (mk (lvE σ i (t + 1)) 12)) from (by rw [nb_diff (by omega), lv_E hR (by omega) (by omega)])) ?_
        refine lv_istore_n (lv' := [(3, .int (nI (mk (lvE σ i (t + 1)) 12))), (2, .int (nI (mk (lvR σ i (t + 1)) 12))), (0, .ref hq), (1, .int (nI i)), (4, .int (nI t))]) hx hb dX2_measureAll_57 rfl hl (by decide) rfl (fun ls hl => ?_)
        refine lv_iinc (v := (nI (t + 1))) (lv' := [(4, .int (nI (t + 1))), (3, .int (nI (mk (lvE σ i (t + 1)) 12))), (2, .int (nI (mk (lvR σ i (t + 1)) 12))), (0, .ref hq), (1, .int (nI i))]) hx hb dX2_measureAll_58 hl (k := 4) rfl (nI_add t 1) (by decide) rfl (fun ls hl => ?_)
        refine lv_goto (tgt := 25) hx hb dX2_measureAll_61 (by decide) ?_
        exact ih25 (t + 1, nwF U i (mk (lvE σ i t) 12) t 12) H locs ls ⟨hP, hD, hS, lv_sub hl [3, 4, 2, 1, 0] rfl, (by omega), (wI_note hU)⟩ (by first | omega | (dsimp only; omega))
set_option maxHeartbeats 4000000 in
set_option maxRecDepth 100000 in
theorem c_X2_openAll (l : Launch) (g : va_G) (cy : Nat → ClassId) (hq hw hs : Nat) (sz : Nat) (σ : Nat → Nat) (Wv : Nat → Int32) (SW : Nat → Int32) (cl : Nat) (hR : RC σ 0) : Met l yX2_openAll (Cond.code yX2_openAll cX2_openAll 1 none :: wsL_law) ({ frames := 3, cells := 0, slots := 0, locals := 70 } : Room) (va_Pc [.ref hq] (pr g cy [(hq, .inr (2, [.ref hw, .ref hs, .int (nI cl)])), aI cy hw 144 Wv, aI cy hs 12 SW] sz)) (wr_Q (fun W1 : Nat → Int32 => none) (fun W1 : Nat → Int32 => (∀ i9, i9 < 144 → W1 i9 = wv σ i9)) (fun W1 : Nat → Int32 => [(hq, .inr (2, [.ref hw, .ref hs, .int (nI 0)])), aI cy hw 144 W1, aI cy hs 12 SW]) g (va_A [(hq, .inr (2, [.ref hw, .ref hs, .int (nI cl)])), aI cy hw 144 Wv, aI cy hs 12 SW] sz)) 0 0 (va_A [(hq, .inr (2, [.ref hw, .ref hs, .int (nI cl)])), aI cy hw 144 Wv, aI cy hs 12 SW] sz) := by
  refine mt_of (cc := cX2_openAll) (maxL := 1) (ret := none) (by decide +kernel) (Nat.le_of_ble_eq_true rfl) ?_
  intro pX eX s mX below meth cX ls A hx hb hr hml hown hts hlk hin hsz hAe hA hP hD hK hX hl
  subst hsz
  rw [← hAe]
  clear hAe
  have hl : lv_has ls 1 [(0, .ref hq)] := hl
  have hS : va_S A s.heap s.heap [] := va_S.rf
  refine lv_aload_n hx hb dX2_openAll_0 rfl (lv_at hl 0 rfl) ?_
  refine lv_iconst (v := (nI 0)) hx hb dX2_openAll_1 (by decide) ?_
  refine va_put (D := g) (ci := 2) (v := .int (nI 0)) (ty := .int) (C := RX2) (T := TX2) (N := 3) hx hb hts bgX2 tyX2 tyX2_ok nmX2 hown hK hP hD hS 0 rfl rfl 2 (by decide) (hts _ wd4_10) (fun _ h9 => h9) rfl (by decide +kernel) rfl rfl (Nat.le_of_ble_eq_true rfl) dX2_openAll_2 (fun H locs hP hD hS => ?_)
  have hP : va_P g vwCl [(hq, .inr (2, [.ref hw, .ref hs, .int (nI 0)])), aI cy hw 144 Wv, aI cy hs 12 SW] H := hP
  have hD : va_D A [(hq, .inr (2, [.ref hw, .ref hs, .int (nI 0)])), aI cy hw 144 Wv, aI cy hs 12 SW] := hD
  refine lv_aload_n hx hb dX2_openAll_5 rfl (lv_at hl 0 rfl) ?_
  refine wr_call (wc := [(hq, .inr (2, [.ref hw, .ref hs, .int (nI 0)])), aI cy hw 144 Wv, aI cy hs 12 SW]) (va_runV (As := []) (rest := []) ⟨hx, hb, hml, hown, hts⟩ (c_X2_measureAll l g cy hq hw hs H.size σ Wv SW 0 hR) ⟨(cB 0 hts wd4_14 wd2_7 wd4_11 rfl rfl (by decide +kernel) ⟨Nat.le_of_ble_eq_true rfl, Nat.le_of_ble_eq_true rfl⟩), hts _ wd4_12, hts _ wd4_13⟩ (pv hK hP hD hS hA hX [0, 1, 2] rfl rfl 2 0 rfl rfl) rfl rfl hl.1 rfl (lv_room (Nat.le_of_ble_eq_true rfl)) dX2_openAll_6 ⟨Nat.zero_le _, Nat.zero_le _⟩) hP hD hS hA [0, 1, 2] rfl rfl (fun _ => rfl) ?_
  rintro W1_6 H locs hW1_6 hP hD hS
  have hP : va_P g vwCl [(hq, .inr (2, [.ref hw, .ref hs, .int (nI 0)])), aI cy hw 144 W1_6, aI cy hs 12 SW] H := hP
  have hD : va_D A [(hq, .inr (2, [.ref hw, .ref hs, .int (nI 0)])), aI cy hw 144 W1_6, aI cy hs 12 SW] := hD
  have hW1_6 : ∀ i9, i9 < 144 → W1_6 i9 = wv σ i9 := hW1_6
  show W _ _ _ _ _ _ _ _ _ _ _ _ _ _ _ (F0 mX 9 ls [])
  exact wr_v W1_6 rfl hW1_6 hP hS hx hb hr dX2_openAll_9 hlk
set_option maxHeartbeats 4000000 in
set_option maxRecDepth 100000 in
theorem c_X2_shortens (l : Launch) (g : va_G) (cy : Nat → ClassId) (hq hw hs : Nat) (sz : Nat) (Wv : Nat → Int32) (w : Nat → Nat) (cl : Nat) (u : Nat) (v : Nat) (hu : u < 12) (hv : v < 12) (hw9 : ∀ x, x < 12 → w x ≤ 1000) : Met l yX2_shortens (Cond.code yX2_shortens cX2_shortens 3 (some .boolean) :: wsL_law) ({ frames := 0, cells := 0, slots := 0, locals := 0 } : Room) (va_Pc [.ref hq, .int (nI u), .int (nI v)] (pr g cy [(hq, .inr (2, [.ref hw, .ref hs, .int (nI cl)])), aI cy hw 144 Wv, aI cy hs 12 (mS w)] sz)) (wr_Q (fun _ : Unit => (some (.int (bI (shB w u v))))) (fun _ : Unit => True) (fun _ : Unit => [(hq, .inr (2, [.ref hw, .ref hs, .int (nI cl)])), aI cy hw 144 Wv, aI cy hs 12 (mS (sho w u v))]) g (va_A [(hq, .inr (2, [.ref hw, .ref hs, .int (nI cl)])), aI cy hw 144 Wv, aI cy hs 12 (mS w)] sz)) 0 0 (va_A [(hq, .inr (2, [.ref hw, .ref hs, .int (nI cl)])), aI cy hw 144 Wv, aI cy hs 12 (mS w)] sz) := by
  refine mt_of (cc := cX2_shortens) (maxL := 3) (ret := (some .boolean)) (by decide +kernel) (Nat.le_of_ble_eq_true rfl) ?_
  intro pX eX s mX below meth cX ls A hx hb hr hml hown hts hlk hin hsz hAe hA hP hD hK hX hl
  subst hsz
  rw [← hAe]
  clear hAe
  have hl : lv_has ls 3 [(0, .ref hq), (1, .int (nI u)), (2, .int (nI v))] := hl
  have hS : va_S A s.heap s.heap [] := va_S.rf
  have hwu := hw9 u hu
  have hwv := hw9 v hv
  refine lv_iload_n hx hb dX2_shortens_0 rfl (lv_at hl 1 rfl) ?_
  refine lv_if_lt (tgt := 26) hx hb dX2_shortens_1 (by decide) (fun c_1 => ?_) (fun c_1 => ?_)
  · exact absurd c_1 (nI_pos (by omega))
  · skip
    refine lv_iload_n hx hb dX2_shortens_4 rfl (lv_at hl 1 rfl) ?_
    refine lv_aload_n hx hb dX2_shortens_5 rfl (lv_at hl 0 rfl) ?_
    refine va_get (D := g) (ci := 2) (v := .ref hs) (C := RX2) (T := TX2) (N := 3) hx hb hts bgX2 hown hK hP 0 rfl rfl 1 (by decide) (hts _ wd2_21) (fun _ h9 => h9) rfl dX2_shortens_6 ?_
    refine va_alen (v := nI 12) hx hb hK hP 2 0 rfl rfl rfl dX2_shortens_9 ?_
    refine lv_icmp_ge (tgt := 26) hx hb dX2_shortens_10 (by decide) (fun c_10 => ?_) (fun c_10 => ?_)
    · have c_10 := (nc_le (by omega) (by omega) c_10)
      omega
    · have c_10 := (nc_nle (by omega) (by omega) c_10)
      refine lv_iload_n hx hb dX2_shortens_13 rfl (lv_at hl 2 rfl) ?_
      refine lv_if_lt (tgt := 26) hx hb dX2_shortens_14 (by decide) (fun c_14 => ?_) (fun c_14 => ?_)
      · exact absurd c_14 (nI_pos (by omega))
      · skip
        refine lv_iload_n hx hb dX2_shortens_17 rfl (lv_at hl 2 rfl) ?_
        refine lv_aload_n hx hb dX2_shortens_18 rfl (lv_at hl 0 rfl) ?_
        refine va_get (D := g) (ci := 2) (v := .ref hs) (C := RX2) (T := TX2) (N := 3) hx hb hts bgX2 hown hK hP 0 rfl rfl 1 (by decide) (hts _ wd2_21) (fun _ h9 => h9) rfl dX2_shortens_19 ?_
        refine va_alen (v := nI 12) hx hb hK hP 2 0 rfl rfl rfl dX2_shortens_22 ?_
        refine lv_icmp_lt (tgt := 28) hx hb dX2_shortens_23 (by decide) (fun c_23 => ?_) (fun c_23 => ?_)
        · have c_23 := (nc_lt (by omega) (by omega) c_23)
          refine lv_aload_n hx hb dX2_shortens_28 rfl (lv_at hl 0 rfl) ?_
          refine va_get (D := g) (ci := 2) (v := .ref hs) (C := RX2) (T := TX2) (N := 3) hx hb hts bgX2 hown hK hP 0 rfl rfl 1 (by decide) (hts _ wd2_21) (fun _ h9 => h9) rfl dX2_shortens_29 ?_
          refine lv_iload_n hx hb dX2_shortens_32 rfl (lv_at hl 1 rfl) ?_
          refine va_iald hx hb hK hP 2 0 rfl rfl (vp_in_nI (n := u) (by omega) (by omega)) dX2_shortens_33 ?_
          refine ti (show (mS w) (nI u).toNatClampNeg = nI (w u) from by rw [nI_clamp (by omega)]; rfl) ?_
          refine lv_iconst (v := (nI 1)) hx hb dX2_shortens_34 (by decide) ?_
          refine lv_iadd hx hb dX2_shortens_35 ?_
          refine ti (nI_add (w u) 1) ?_
          refine lv_aload_n hx hb dX2_shortens_36 rfl (lv_at hl 0 rfl) ?_
          refine va_get (D := g) (ci := 2) (v := .ref hs) (C := RX2) (T := TX2) (N := 3) hx hb hts bgX2 hown hK hP 0 rfl rfl 1 (by decide) (hts _ wd2_21) (fun _ h9 => h9) rfl dX2_shortens_37 ?_
          refine lv_iload_n hx hb dX2_shortens_40 rfl (lv_at hl 2 rfl) ?_
          refine va_iald hx hb hK hP 2 0 rfl rfl (vp_in_nI (n := v) (by omega) (by omega)) dX2_shortens_41 ?_
          refine ti (show (mS w) (nI v).toNatClampNeg = nI (w v) from by rw [nI_clamp (by omega)]; rfl) ?_
          refine lv_icmp_lt (tgt := 47) hx hb dX2_shortens_42 (by decide) (fun c_42 => ?_) (fun c_42 => ?_)
          · have c_42 := (nc_lt (by omega) (by omega) c_42)
            refine lv_aload_n hx hb dX2_shortens_47 rfl (lv_at hl 0 rfl) ?_
            refine va_get (D := g) (ci := 2) (v := .ref hs) (C := RX2) (T := TX2) (N := 3) hx hb hts bgX2 hown hK hP 0 rfl rfl 1 (by decide) (hts _ wd2_21) (fun _ h9 => h9) rfl dX2_shortens_48 ?_
            refine lv_iload_n hx hb dX2_shortens_51 rfl (lv_at hl 2 rfl) ?_
            refine lv_aload_n hx hb dX2_shortens_52 rfl (lv_at hl 0 rfl) ?_
            refine va_get (D := g) (ci := 2) (v := .ref hs) (C := RX2) (T := TX2) (N := 3) hx hb hts bgX2 hown hK hP 0 rfl rfl 1 (by decide) (hts _ wd2_21) (fun _ h9 => h9) rfl dX2_shortens_53 ?_
            refine lv_iload_n hx hb dX2_shortens_56 rfl (lv_at hl 1 rfl) ?_
            refine va_iald hx hb hK hP 2 0 rfl rfl (vp_in_nI (n := u) (by omega) (by omega)) dX2_shortens_57 ?_
            refine ti (show (mS w) (nI u).toNatClampNeg = nI (w u) from by rw [nI_clamp (by omega)]; rfl) ?_
            refine lv_iconst (v := (nI 1)) hx hb dX2_shortens_58 (by decide) ?_
            refine lv_iadd hx hb dX2_shortens_59 ?_
            refine ti (nI_add (w u) 1) ?_
            refine va_iast hx hb hK hP hD hS 2 0 rfl rfl (vp_in_nI (n := v) (by omega) (by omega)) dX2_shortens_60 (fun H locs hP hD hS => ?_)
            rw [nI_clamp (n := v) (by omega)] at hP hD
            rw [mS_up] at hP hD
            have hP : va_P g vwCl [(hq, .inr (2, [.ref hw, .ref hs, .int (nI cl)])), aI cy hw 144 Wv, aI cy hs 12 (mS (up w v ((w u) + 1)))] H := hP
            have hD : va_D A [(hq, .inr (2, [.ref hw, .ref hs, .int (nI cl)])), aI cy hw 144 Wv, aI cy hs 12 (mS (up w v ((w u) + 1)))] := hD
            rw [show (mS (up w v ((w u) + 1))) = (mS (sho w u v)) from (by rw [show sho w u v = _ from if_neg (Nat.not_le.mpr c_42)])] at hP hD
            refine lv_iconst (v := (nI 1)) hx hb dX2_shortens_61 (by decide) ?_
            exact wr_z (b := (shB w u v)) () (by simp [shB, bI, nI_o, c_42]) rfl trivial hP hS hx hb hr dX2_shortens_62 hlk
          · have c_42 := (nc_nlt (by omega) (by omega) c_42)
            rw [show (mS w) = (mS (sho w u v)) from (by rw [show sho w u v = w from if_pos c_42])] at hP hD
            refine lv_iconst (v := (nI 0)) hx hb dX2_shortens_45 (by decide) ?_
            exact wr_z (b := (shB w u v)) () (by simp [shB, bI, nI_0, c_42]) rfl trivial hP hS hx hb hr dX2_shortens_46 hlk
        · have c_23 := (nc_nlt (by omega) (by omega) c_23)
          omega
set_option maxHeartbeats 4000000 in
set_option maxRecDepth 100000 in
theorem c_X2_shortensEither (l : Launch) (g : va_G) (cy : Nat → ClassId) (hq hw hs : Nat) (sz : Nat) (Wv : Nat → Int32) (w : Nat → Nat) (cl : Nat) (u : Nat) (v : Nat) (hu : u < 12) (hv : v < 12) (hw9 : ∀ x, x < 12 → w x ≤ 1000) : Met l yX2_shortensEither (Cond.code yX2_shortensEither cX2_shortensEither 3 (some .boolean) :: wsL_law) ({ frames := 1, cells := 0, slots := 0, locals := 22 } : Room) (va_Pc [.ref hq, .int (nI u), .int (nI v)] (pr g cy [(hq, .inr (2, [.ref hw, .ref hs, .int (nI cl)])), aI cy hw 144 Wv, aI cy hs 12 (mS w)] sz)) (wr_Q (fun _ : Unit => (some (.int (bI (shB w u v || shB (sho w u v) v u))))) (fun _ : Unit => True) (fun _ : Unit => [(hq, .inr (2, [.ref hw, .ref hs, .int (nI cl)])), aI cy hw 144 Wv, aI cy hs 12 (mS (sho (sho w u v) v u))]) g (va_A [(hq, .inr (2, [.ref hw, .ref hs, .int (nI cl)])), aI cy hw 144 Wv, aI cy hs 12 (mS w)] sz)) 0 0 (va_A [(hq, .inr (2, [.ref hw, .ref hs, .int (nI cl)])), aI cy hw 144 Wv, aI cy hs 12 (mS w)] sz) := by
  refine mt_of (cc := cX2_shortensEither) (maxL := 3) (ret := (some .boolean)) (by decide +kernel) (Nat.le_of_ble_eq_true rfl) ?_
  intro pX eX s mX below meth cX ls A hx hb hr hml hown hts hlk hin hsz hAe hA hP hD hK hX hl
  subst hsz
  rw [← hAe]
  clear hAe
  have hl : lv_has ls 3 [(0, .ref hq), (1, .int (nI u)), (2, .int (nI v))] := hl
  have hS : va_S A s.heap s.heap [] := va_S.rf
  have hwu := hw9 u hu
  have hwv := hw9 v hv
  refine lv_aload_n hx hb dX2_shortensEither_0 rfl (lv_at hl 0 rfl) ?_
  refine lv_iload_n hx hb dX2_shortensEither_1 rfl (lv_at hl 1 rfl) ?_
  refine lv_iload_n hx hb dX2_shortensEither_2 rfl (lv_at hl 2 rfl) ?_
  refine wr_call (wc := [(hq, .inr (2, [.ref hw, .ref hs, .int (nI cl)])), aI cy hw 144 Wv, aI cy hs 12 (mS w)]) (va_runV (As := [.int (nI u), .int (nI v)]) (rest := []) ⟨hx, hb, hml, hown, hts⟩ (c_X2_shortens l g cy hq hw hs s.heap.size Wv w cl u v (by omega) (by omega) hw9) ⟨(cB 2 hts wd21_16 wd2_7 wd21_13 rfl rfl (by decide +kernel) ⟨Nat.le_of_ble_eq_true rfl, Nat.le_of_ble_eq_true rfl⟩), hts _ wd21_14, hts _ wd21_15⟩ (pv hK hP hD hS hA hX [0, 1, 2] rfl rfl 2 0 rfl rfl) rfl rfl hl.1 rfl (lv_room (Nat.le_of_ble_eq_true rfl)) dX2_shortensEither_3 ⟨Nat.zero_le _, Nat.zero_le _⟩) hP hD hS hA [0, 1, 2] rfl rfl (fun _ => (rfl : ([hq, hw, hs] : List Nat) = [hq, hw, hs])) ?_
  rintro _u9 H locs - hP hD hS
  have hP : va_P g vwCl [(hq, .inr (2, [.ref hw, .ref hs, .int (nI cl)])), aI cy hw 144 Wv, aI cy hs 12 (mS (sho w u v))] H := hP
  have hD : va_D A [(hq, .inr (2, [.ref hw, .ref hs, .int (nI cl)])), aI cy hw 144 Wv, aI cy hs 12 (mS (sho w u v))] := hD
  show W _ _ _ _ _ _ _ _ _ _ _ _ _ _ _ (F0 mX 6 ls [.int (bI (shB w u v))])
  refine lv_if_ne (tgt := 18) hx hb dX2_shortensEither_6 (by decide) (fun c_6 => ?_) (fun c_6 => ?_)
  · have c_6 := (bI_ne0.mp c_6)
    rw [show (mS (sho w u v)) = (mS (sho (sho w u v) v u)) from (congrArg mS (sho_b c_6).symm)] at hP hD
    refine lv_iconst (v := (nI 1)) hx hb dX2_shortensEither_18 (by decide) ?_
    refine lv_goto (tgt := 23) hx hb dX2_shortensEither_19 (by decide) ?_
    exact wr_z (b := (shB w u v || shB (sho w u v) v u)) () (by simp [bI, nI_0, nI_o, c_6]) rfl trivial hP hS hx hb hr dX2_shortensEither_23 hlk
  · have c_6 := (bI_eq0.mp c_6)
    refine lv_aload_n hx hb dX2_shortensEither_9 rfl (lv_at hl 0 rfl) ?_
    refine lv_iload_n hx hb dX2_shortensEither_10 rfl (lv_at hl 2 rfl) ?_
    refine lv_iload_n hx hb dX2_shortensEither_11 rfl (lv_at hl 1 rfl) ?_
    have hw12 : ∀ x, x < 12 → sho w u v x ≤ 1000 := fun x hx => Nat.le_trans sho_le (hw9 x hx)
    refine wr_call (wc := [(hq, .inr (2, [.ref hw, .ref hs, .int (nI cl)])), aI cy hw 144 Wv, aI cy hs 12 (mS (sho w u v))]) (va_runV (As := [.int (nI v), .int (nI u)]) (rest := []) ⟨hx, hb, hml, hown, hts⟩ (c_X2_shortens l g cy hq hw hs H.size Wv (sho w u v) cl v u (by omega) (by omega) hw12) ⟨(cB 2 hts wd21_16 wd2_7 wd21_13 rfl rfl (by decide +kernel) ⟨Nat.le_of_ble_eq_true rfl, Nat.le_of_ble_eq_true rfl⟩), hts _ wd21_14, hts _ wd21_15⟩ (pv hK hP hD hS hA hX [0, 1, 2] rfl rfl 2 0 rfl rfl) rfl rfl hl.1 rfl (lv_room (Nat.le_of_ble_eq_true rfl)) dX2_shortensEither_12 ⟨Nat.zero_le _, Nat.zero_le _⟩) hP hD hS hA [0, 1, 2] rfl rfl (fun _ => (rfl : ([hq, hw, hs] : List Nat) = [hq, hw, hs])) ?_
    rintro _u9 H locs - hP hD hS
    have hP : va_P g vwCl [(hq, .inr (2, [.ref hw, .ref hs, .int (nI cl)])), aI cy hw 144 Wv, aI cy hs 12 (mS (sho (sho w u v) v u))] H := hP
    have hD : va_D A [(hq, .inr (2, [.ref hw, .ref hs, .int (nI cl)])), aI cy hw 144 Wv, aI cy hs 12 (mS (sho (sho w u v) v u))] := hD
    show W _ _ _ _ _ _ _ _ _ _ _ _ _ _ _ (F0 mX 15 ls [.int (bI (shB (sho w u v) v u))])
    refine lv_if_eq (tgt := 22) hx hb dX2_shortensEither_15 (by decide) (fun c_15 => ?_) (fun c_15 => ?_)
    · have c_15 := (bI_eq0.mp c_15)
      refine lv_iconst (v := (nI 0)) hx hb dX2_shortensEither_22 (by decide) ?_
      exact wr_z (b := (shB w u v || shB (sho w u v) v u)) () (by simp [bI, nI_0, nI_o, c_6, c_15]) rfl trivial hP hS hx hb hr dX2_shortensEither_23 hlk
    · have c_15 := (bI_ne0.mp c_15)
      refine lv_iconst (v := (nI 1)) hx hb dX2_shortensEither_18 (by decide) ?_
      refine lv_goto (tgt := 23) hx hb dX2_shortensEither_19 (by decide) ?_
      exact wr_z (b := (shB w u v || shB (sho w u v) v u)) () (by simp [bI, nI_0, nI_o, c_6, c_15]) rfl trivial hP hS hx hb hr dX2_shortensEither_23 hlk
set_option maxHeartbeats 4000000 in
set_option maxRecDepth 100000 in
theorem c_X2_sweepOnce (l : Launch) (g : va_G) (cy : Nat → ClassId) (hq hw hs : Nat) (sz : Nat) (Wv : Nat → Int32) (w : Nat → Nat) (cl : Nat) (hcl : cl < 2 ^ 17) (hw9 : ∀ x, x < 12 → w x ≤ 1000) : Met l yX2_sweepOnce (Cond.code yX2_sweepOnce cX2_sweepOnce 3 (some .boolean) :: wsL_law) ({ frames := 2, cells := 0, slots := 0, locals := 44 } : Room) (va_Pc [.ref hq] (pr g cy [(hq, .inr (2, [.ref hw, .ref hs, .int (nI cl)])), aI cy hw 144 Wv, aI cy hs 12 (mS w)] sz)) (wr_Q (fun _ : Unit => (some (.int (bI (swpB cl 17 w))))) (fun _ : Unit => True) (fun _ : Unit => [(hq, .inr (2, [.ref hw, .ref hs, .int (nI cl)])), aI cy hw 144 Wv, aI cy hs 12 (mS (swp cl 17 w))]) g (va_A [(hq, .inr (2, [.ref hw, .ref hs, .int (nI cl)])), aI cy hw 144 Wv, aI cy hs 12 (mS w)] sz)) 0 0 (va_A [(hq, .inr (2, [.ref hw, .ref hs, .int (nI cl)])), aI cy hw 144 Wv, aI cy hs 12 (mS w)] sz) := by
  refine mt_of (cc := cX2_sweepOnce) (maxL := 3) (ret := (some .boolean)) (by decide +kernel) (Nat.le_of_ble_eq_true rfl) ?_
  intro pX eX s mX below meth cX ls A hx hb hr hml hown hts hlk hin hsz hAe hA hP hD hK hX hl
  subst hsz
  rw [← hAe]
  clear hAe
  have hl : lv_has ls 3 [(0, .ref hq)] := hl
  have hS : va_S A s.heap s.heap [] := va_S.rf
  refine lv_iconst (v := (nI 0)) hx hb dX2_sweepOnce_0 (by decide) ?_
  refine lv_istore_n (lv' := [(1, .int (nI 0)), (0, .ref hq)]) hx hb dX2_sweepOnce_1 rfl hl (by decide) rfl (fun ls hl => ?_)
  refine lv_iconst (v := (nI 0)) hx hb dX2_sweepOnce_2 (by decide) ?_
  refine lv_istore_n (lv' := [(2, .int (nI 0)), (1, .int (nI 0)), (0, .ref hq)]) hx hb dX2_sweepOnce_3 rfl hl (by decide) rfl (fun ls hl => ?_)
  rw [show (mS w) = (mS (swp cl 0 w)) from rfl] at hP hD
  have hl : lv_has ls 3 [(2, .int (nI 0)), (1, .int (bI (swpB cl 0 w))), (0, .ref hq)] := by rw [← show (nI 0) = (bI (swpB cl 0 w)) from rfl]; exact hl
  refine lp_rule (σ := (Nat)) (fun x9 H9 locs9 ls9 => va_P g vwCl [(hq, .inr (2, [.ref hw, .ref hs, .int (nI cl)])), aI cy hw 144 Wv, aI cy hs 12 (mS (swp cl x9 w))] H9 ∧ va_D A [(hq, .inr (2, [.ref hw, .ref hs, .int (nI cl)])), aI cy hw 144 Wv, aI cy hs 12 (mS (swp cl x9 w))] ∧ va_S A s.heap H9 locs9 ∧ lv_has ls9 3 [(0, .ref hq), (1, .int (bI (swpB cl x9 w))), (2, .int (nI (2 * x9)))] ∧ (x9 ≤ 17)) (fun x9 => 17 - x9) (0) ⟨hP, hD, hS, lv_sub hl [2, 1, 0] rfl, (by omega)⟩ ?_
  rintro k H locs ls ⟨hP, hD, hS, hl, hk⟩ ih4
  try dsimp only at hl hk hP hD ih4
  refine lv_iload_n hx hb dX2_sweepOnce_4 rfl (lv_at hl 2 rfl) ?_
  refine lv_iconst (v := (nI 1)) hx hb dX2_sweepOnce_5 (by decide) ?_
  refine lv_iadd hx hb dX2_sweepOnce_6 ?_
  refine ti (nI_add (2 * k) 1) ?_
  obtain ⟨tE, hZ, hT⟩ := hX.2.2.2.1
  refine va_gets hx hb hZ hS hown (hts _ wd5_5) (fun _ h9 => h9) dX2_sweepOnce_7 ?_
  refine va_tlen (v := nI 34) hx hb hT hS rfl dX2_sweepOnce_10 ?_
  refine lv_icmp_ge (tgt := 54) hx hb dX2_sweepOnce_11 (by decide) (fun c_11 => ?_) (fun c_11 => ?_)
  · have c_11 := (nc_le (by omega) (by omega) c_11)
    have hk17 : k = 17 := by omega
    subst hk17
    refine lv_iload_n hx hb dX2_sweepOnce_54 rfl (lv_at hl 1 rfl) ?_
    exact wr_z (b := (swpB cl 17 w)) () (by simp [c_11, bI, nI_0, nI_o]) rfl trivial hP hS hx hb hr dX2_sweepOnce_55 hlk
  · have c_11 := (nc_nle (by omega) (by omega) c_11)
    refine lv_aload_n hx hb dX2_sweepOnce_14 rfl (lv_at hl 0 rfl) ?_
    refine va_get (D := g) (ci := 2) (v := .int (nI cl)) (C := RX2) (T := TX2) (N := 3) hx hb hts bgX2 hown hK hP 0 rfl rfl 2 (by decide) (hts _ wd4_10) (fun _ h9 => h9) rfl dX2_sweepOnce_15 ?_
    refine lv_iload_n hx hb dX2_sweepOnce_18 rfl (lv_at hl 2 rfl) ?_
    refine lv_iconst (v := (nI 2)) hx hb dX2_sweepOnce_19 (by decide) ?_
    refine lv_idiv hx hb dX2_sweepOnce_20 (nI_ne0 (by omega) (by omega)) ?_
    refine ti (pk_div (a := (2 * k)) (d := 2) (by omega) (by omega) (by omega)) ?_
    refine ti (show (nI ((2 * k) / 2)) = (nI k) from (by rw [show 2 * k / 2 = k by omega])) ?_
    refine rd_call (va_runSN (As := [.int (nI cl), .int (nI k)]) (rest := []) ⟨hx, hb, hml, hown, hts⟩ (c_X7_hasBit l cl k (by omega) (by omega)) ⟨va_cnB 2 hts (bg_call wd5_0) rfl rfl rfl (nM_4 hX) (hts _ wd1_2) (by decide +kernel) ⟨Nat.le_of_ble_eq_true rfl, Nat.le_of_ble_eq_true rfl⟩, hts _ wd4_23, trivial⟩ p0 rfl rfl hl.1 rfl (lv_room (Nat.le_of_ble_eq_true rfl)) dX2_sweepOnce_21 ⟨Nat.zero_le _, Nat.zero_le _⟩) ?_
    show W _ _ _ _ _ _ _ _ _ _ _ _ _ _ _ (F0 mX 24 ls [.int (bI (cl.testBit k))])
    refine lv_if_ne (tgt := 48) hx hb dX2_sweepOnce_24 (by decide) (fun c_24 => ?_) (fun c_24 => ?_)
    · have c_24 := (bI_ne0.mp c_24)
      rw [show (mS (swp cl k w)) = (mS (swp cl (k + 1) w)) from (congrArg mS (by simp [swp, c_24, eA, eB]))] at hP hD
      have hl : lv_has ls 3 [(0, .ref hq), (1, .int (bI (swpB cl (k + 1) w))), (2, .int (nI (2 * k)))] := by rw [← show (bI (swpB cl k w)) = (bI (swpB cl (k + 1) w)) from (congrArg bI (by simp [swpB, c_24, eA, eB]))]; exact hl
      refine lv_iinc (v := (nI ((2 * k) + 2))) (lv' := [(2, .int (nI ((2 * k) + 2))), (0, .ref hq), (1, .int (bI (swpB cl (k + 1) w)))]) hx hb dX2_sweepOnce_48 hl (k := 2) rfl (nI_add (2 * k) 2) (by decide) rfl (fun ls hl => ?_)
      have hl : lv_has ls 3 [(2, .int (nI (2 * (k + 1)))), (0, .ref hq), (1, .int (bI (swpB cl (k + 1) w)))] := by rw [← show (nI ((2 * k) + 2)) = (nI (2 * (k + 1))) from (by rw [Nat.mul_add])]; exact hl
      refine lv_goto (tgt := 4) hx hb dX2_sweepOnce_51 (by decide) ?_
      exact ih4 (k + 1) H locs ls ⟨hP, hD, hS, lv_sub hl [1, 2, 0] rfl, (by omega)⟩ (by first | omega | (dsimp only; omega))
    · have c_24 := (bI_eq0.mp c_24)
      have hk17 : k < 17 := by omega
      have e0 := ends_lt (2 * k) (by omega)
      have e1 := ends_lt (2 * k + 1) (by omega)
      refine lv_aload_n hx hb dX2_sweepOnce_27 rfl (lv_at hl 0 rfl) ?_
      obtain ⟨tE, hZ, hT⟩ := hX.2.2.2.1
      refine va_gets hx hb hZ hS hown (hts _ wd5_5) (fun _ h9 => h9) dX2_sweepOnce_28 ?_
      refine lv_iload_n hx hb dX2_sweepOnce_31 rfl (lv_at hl 2 rfl) ?_
      refine va_ti (v := .int (nI (endsV (2 * k)))) hx hb hT hS (vp_in_nI (by omega) (by omega)) (by rw [nI_clamp (by omega)]; rfl) dX2_sweepOnce_32 ?_
      obtain ⟨tE, hZ, hT⟩ := hX.2.2.2.1
      refine va_gets hx hb hZ hS hown (hts _ wd5_5) (fun _ h9 => h9) dX2_sweepOnce_33 ?_
      refine lv_iload_n hx hb dX2_sweepOnce_36 rfl (lv_at hl 2 rfl) ?_
      refine lv_iconst (v := (nI 1)) hx hb dX2_sweepOnce_37 (by decide) ?_
      refine lv_iadd hx hb dX2_sweepOnce_38 ?_
      refine ti (nI_add (2 * k) 1) ?_
      refine va_ti (v := .int (nI (endsV ((2 * k) + 1)))) hx hb hT hS (vp_in_nI (by omega) (by omega)) (by rw [nI_clamp (by omega)]; rfl) dX2_sweepOnce_39 ?_
      have hw40 : ∀ x, x < 12 → swp cl k w x ≤ 1000 := fun x hx => Nat.le_trans (swp_le k w x) (hw9 x hx)
      refine wr_call (wc := [(hq, .inr (2, [.ref hw, .ref hs, .int (nI cl)])), aI cy hw 144 Wv, aI cy hs 12 (mS (swp cl k w))]) (va_runV (As := [.int (nI (endsV (2 * k))), .int (nI (endsV ((2 * k) + 1)))]) (rest := []) ⟨hx, hb, hml, hown, hts⟩ (c_X2_shortensEither l g cy hq hw hs H.size Wv (swp cl k w) cl (endsV (2 * k)) (endsV ((2 * k) + 1)) (by omega) (by omega) hw40) ⟨(cB 2 hts wd21_12 wd2_7 wd21_9 rfl rfl (by decide +kernel) ⟨Nat.le_of_ble_eq_true rfl, Nat.le_of_ble_eq_true rfl⟩), hts _ wd21_10, hts _ wd21_11⟩ (pv hK hP hD hS hA hX [0, 1, 2] rfl rfl 2 0 rfl rfl) rfl rfl hl.1 rfl (lv_room (Nat.le_of_ble_eq_true rfl)) dX2_sweepOnce_40 ⟨Nat.zero_le _, Nat.zero_le _⟩) hP hD hS hA [0, 1, 2] rfl rfl (fun _ => (rfl : ([hq, hw, hs] : List Nat) = [hq, hw, hs])) ?_
      rintro _u9 H locs - hP hD hS
      have hP : va_P g vwCl [(hq, .inr (2, [.ref hw, .ref hs, .int (nI cl)])), aI cy hw 144 Wv, aI cy hs 12 (mS (sho (sho (swp cl k w) (endsV (2 * k)) (endsV ((2 * k) + 1))) (endsV ((2 * k) + 1)) (endsV (2 * k))))] H := hP
      have hD : va_D A [(hq, .inr (2, [.ref hw, .ref hs, .int (nI cl)])), aI cy hw 144 Wv, aI cy hs 12 (mS (sho (sho (swp cl k w) (endsV (2 * k)) (endsV ((2 * k) + 1))) (endsV ((2 * k) + 1)) (endsV (2 * k))))] := hD
      show W _ _ _ _ _ _ _ _ _ _ _ _ _ _ _ (F0 mX 43 ls [.int (bI (shB (swp cl k w) (endsV (2 * k)) (endsV ((2 * k) + 1)) || shB (sho (swp cl k w) (endsV (2 * k)) (endsV ((2 * k) + 1))) (endsV ((2 * k) + 1)) (endsV (2 * k))))])
      refine lv_if_eq (tgt := 48) hx hb dX2_sweepOnce_43 (by decide) (fun c_43 => ?_) (fun c_43 => ?_)
      · have c_43 := (bI_eq0.mp c_43)
        rw [show (mS (sho (sho (swp cl k w) (endsV (2 * k)) (endsV ((2 * k) + 1))) (endsV ((2 * k) + 1)) (endsV (2 * k)))) = (mS (swp cl (k + 1) w)) from (congrArg mS (by simp [swp, c_24, eA, eB]))] at hP hD
        have hl : lv_has ls 3 [(0, .ref hq), (1, .int (bI (swpB cl (k + 1) w))), (2, .int (nI (2 * k)))] := by rw [← show (bI (swpB cl k w)) = (bI (swpB cl (k + 1) w)) from (congrArg bI (by rw [swpB_s c_24, c_43, Bool.or_false]))]; exact hl
        refine lv_iinc (v := (nI ((2 * k) + 2))) (lv' := [(2, .int (nI ((2 * k) + 2))), (0, .ref hq), (1, .int (bI (swpB cl (k + 1) w)))]) hx hb dX2_sweepOnce_48 hl (k := 2) rfl (nI_add (2 * k) 2) (by decide) rfl (fun ls hl => ?_)
        have hl : lv_has ls 3 [(2, .int (nI (2 * (k + 1)))), (0, .ref hq), (1, .int (bI (swpB cl (k + 1) w)))] := by rw [← show (nI ((2 * k) + 2)) = (nI (2 * (k + 1))) from (by rw [Nat.mul_add])]; exact hl
        refine lv_goto (tgt := 4) hx hb dX2_sweepOnce_51 (by decide) ?_
        exact ih4 (k + 1) H locs ls ⟨hP, hD, hS, lv_sub hl [1, 2, 0] rfl, (by omega)⟩ (by first | omega | (dsimp only; omega))
      · have c_43 := (bI_ne0.mp c_43)
        refine lv_iconst (v := (nI 1)) hx hb dX2_sweepOnce_46 (by decide) ?_
        refine lv_istore_n (lv' := [(1, .int (nI 1)), (0, .ref hq), (2, .int (nI (2 * k)))]) hx hb dX2_sweepOnce_47 rfl hl (by decide) rfl (fun ls hl => ?_)
        rw [show (mS (sho (sho (swp cl k w) (endsV (2 * k)) (endsV ((2 * k) + 1))) (endsV ((2 * k) + 1)) (endsV (2 * k)))) = (mS (swp cl (k + 1) w)) from (congrArg mS (by simp [swp, c_24, eA, eB]))] at hP hD
        have hl : lv_has ls 3 [(1, .int (bI (swpB cl (k + 1) w))), (0, .ref hq), (2, .int (nI (2 * k)))] := by rw [← show (nI 1) = (bI (swpB cl (k + 1) w)) from (by rw [show swpB cl (k + 1) w = true from by rw [swpB_s c_24, c_43, Bool.or_true]]; simp [bI, nI_o])]; exact hl
        refine lv_iinc (v := (nI ((2 * k) + 2))) (lv' := [(2, .int (nI ((2 * k) + 2))), (1, .int (bI (swpB cl (k + 1) w))), (0, .ref hq)]) hx hb dX2_sweepOnce_48 hl (k := 2) rfl (nI_add (2 * k) 2) (by decide) rfl (fun ls hl => ?_)
        have hl : lv_has ls 3 [(2, .int (nI (2 * (k + 1)))), (1, .int (bI (swpB cl (k + 1) w))), (0, .ref hq)] := by rw [← show (nI ((2 * k) + 2)) = (nI (2 * (k + 1))) from (by rw [Nat.mul_add])]; exact hl
        refine lv_goto (tgt := 4) hx hb dX2_sweepOnce_51 (by decide) ?_
        exact ih4 (k + 1) H locs ls ⟨hP, hD, hS, lv_sub hl [2, 1, 0] rfl, (by omega)⟩ (by first | omega | (dsimp only; omega))
set_option maxHeartbeats 4000000 in
set_option maxRecDepth 100000 in
theorem c_X2_wayBySweeps (l : Launch) (g : va_G) (cy : Nat → ClassId) (hq hw hs : Nat) (sz : Nat) (σ : Nat → Nat) (Wv : Nat → Int32) (SW : Nat → Int32) (cl : Nat) (a : Nat) (b : Nat) (hR : RC σ cl) (ha : a < 12) (hb9 : b < 12) : Met l yX2_wayBySweeps (Cond.code yX2_wayBySweeps cX2_wayBySweeps 5 (some .int) :: wsL_law) ({ frames := 3, cells := 0, slots := 0, locals := 66 } : Room) (va_Pc [.ref hq, .int (nI a), .int (nI b)] (pr g cy [(hq, .inr (2, [.ref hw, .ref hs, .int (nI cl)])), aI cy hw 144 Wv, aI cy hs 12 SW] sz)) (wr_Q (fun w1 : Nat → Nat => (some (.int (wv σ (12 * a + b))))) (fun w1 : Nat → Nat => True) (fun w1 : Nat → Nat => [(hq, .inr (2, [.ref hw, .ref hs, .int (nI cl)])), aI cy hw 144 Wv, aI cy hs 12 (mS w1)]) g (va_A [(hq, .inr (2, [.ref hw, .ref hs, .int (nI cl)])), aI cy hw 144 Wv, aI cy hs 12 SW] sz)) 0 0 (va_A [(hq, .inr (2, [.ref hw, .ref hs, .int (nI cl)])), aI cy hw 144 Wv, aI cy hs 12 SW] sz) := by
  refine mt_of (cc := cX2_wayBySweeps) (maxL := 5) (ret := (some .int)) (by decide +kernel) (Nat.le_of_ble_eq_true rfl) ?_
  intro pX eX s mX below meth cX ls A hx hb hr hml hown hts hlk hin hsz hAe hA hP hD hK hX hl
  subst hsz
  rw [← hAe]
  clear hAe
  have hl : lv_has ls 5 [(0, .ref hq), (1, .int (nI a)), (2, .int (nI b))] := hl
  have hS : va_S A s.heap s.heap [] := va_S.rf
  have hcl := hR.1
  refine lv_iload_n hx hb dX2_wayBySweeps_0 rfl (lv_at hl 1 rfl) ?_
  refine lv_if_lt (tgt := 26) hx hb dX2_wayBySweeps_1 (by decide) (fun c_1 => ?_) (fun c_1 => ?_)
  · exact absurd c_1 (nI_pos (by omega))
  · skip
    refine lv_iload_n hx hb dX2_wayBySweeps_4 rfl (lv_at hl 1 rfl) ?_
    refine lv_aload_n hx hb dX2_wayBySweeps_5 rfl (lv_at hl 0 rfl) ?_
    refine va_get (D := g) (ci := 2) (v := .ref hs) (C := RX2) (T := TX2) (N := 3) hx hb hts bgX2 hown hK hP 0 rfl rfl 1 (by decide) (hts _ wd2_21) (fun _ h9 => h9) rfl dX2_wayBySweeps_6 ?_
    refine va_alen (v := nI 12) hx hb hK hP 2 0 rfl rfl rfl dX2_wayBySweeps_9 ?_
    refine lv_icmp_ge (tgt := 26) hx hb dX2_wayBySweeps_10 (by decide) (fun c_10 => ?_) (fun c_10 => ?_)
    · have c_10 := (nc_le (by omega) (by omega) c_10)
      omega
    · have c_10 := (nc_nle (by omega) (by omega) c_10)
      refine lv_iload_n hx hb dX2_wayBySweeps_13 rfl (lv_at hl 2 rfl) ?_
      refine lv_if_lt (tgt := 26) hx hb dX2_wayBySweeps_14 (by decide) (fun c_14 => ?_) (fun c_14 => ?_)
      · exact absurd c_14 (nI_pos (by omega))
      · skip
        refine lv_iload_n hx hb dX2_wayBySweeps_17 rfl (lv_at hl 2 rfl) ?_
        refine lv_aload_n hx hb dX2_wayBySweeps_18 rfl (lv_at hl 0 rfl) ?_
        refine va_get (D := g) (ci := 2) (v := .ref hs) (C := RX2) (T := TX2) (N := 3) hx hb hts bgX2 hown hK hP 0 rfl rfl 1 (by decide) (hts _ wd2_21) (fun _ h9 => h9) rfl dX2_wayBySweeps_19 ?_
        refine va_alen (v := nI 12) hx hb hK hP 2 0 rfl rfl rfl dX2_wayBySweeps_22 ?_
        refine lv_icmp_lt (tgt := 28) hx hb dX2_wayBySweeps_23 (by decide) (fun c_23 => ?_) (fun c_23 => ?_)
        · have c_23 := (nc_lt (by omega) (by omega) c_23)
          refine lv_aload_n hx hb dX2_wayBySweeps_28 rfl (lv_at hl 0 rfl) ?_
          refine va_get (D := g) (ci := 2) (v := .ref hs) (C := RX2) (T := TX2) (N := 3) hx hb hts bgX2 hown hK hP 0 rfl rfl 1 (by decide) (hts _ wd2_21) (fun _ h9 => h9) rfl dX2_wayBySweeps_29 ?_
          refine lv_sipush (v := (nI 1000)) hx hb dX2_wayBySweeps_32 (by decide) ?_
          refine wr_call (wc := [aI cy hs 12 SW]) (va_runS (As := [.ref hs, .int (nI 1000)]) (rest := []) ⟨hx, hb, hml, hown, hts⟩ (c_J7_fill_53178 l g cy hs s.heap.size 12 SW (nI 1000) (by omega)) ⟨(cB 2 hts wd4_18 wd4_17 wd4_15 rfl rfl (by decide +kernel) ⟨Nat.le_of_ble_eq_true rfl, Nat.le_of_ble_eq_true rfl⟩), hts _ wd4_16⟩ (ps hK hP hD hS hA hX [2] rfl rfl) rfl rfl hl.1 rfl (lv_room (Nat.le_of_ble_eq_true rfl)) dX2_wayBySweeps_35 ⟨Nat.zero_le _, Nat.zero_le _⟩) hP hD hS hA [2] rfl rfl (fun _ => rfl) ?_
          rintro _u9 H locs - hP hD hS
          have hP : va_P g vwCl [(hq, .inr (2, [.ref hw, .ref hs, .int (nI cl)])), aI cy hw 144 Wv, aI cy hs 12 (fun _ => (nI 1000))] H := hP
          have hD : va_D A [(hq, .inr (2, [.ref hw, .ref hs, .int (nI cl)])), aI cy hw 144 Wv, aI cy hs 12 (fun _ => (nI 1000))] := hD
          show W _ _ _ _ _ _ _ _ _ _ _ _ _ _ _ (F0 mX 38 ls [])
          rw [show (fun _ => (nI 1000)) = (mS (fun _ => 1000)) from rfl] at hP hD
          refine lv_aload_n hx hb dX2_wayBySweeps_38 rfl (lv_at hl 0 rfl) ?_
          refine va_get (D := g) (ci := 2) (v := .ref hs) (C := RX2) (T := TX2) (N := 3) hx hb hts bgX2 hown hK hP 0 rfl rfl 1 (by decide) (hts _ wd2_21) (fun _ h9 => h9) rfl dX2_wayBySweeps_39 ?_
          refine lv_iload_n hx hb dX2_wayBySweeps_42 rfl (lv_at hl 1 rfl) ?_
          refine lv_iconst (v := (nI 0)) hx hb dX2_wayBySweeps_43 (by decide) ?_
          refine va_iast hx hb hK hP hD hS 2 0 rfl rfl (vp_in_nI (n := a) (by omega) (by omega)) dX2_wayBySweeps_44 (fun H locs hP hD hS => ?_)
          rw [nI_clamp (n := a) (by omega)] at hP hD
          rw [mS_up] at hP hD
          have hP : va_P g vwCl [(hq, .inr (2, [.ref hw, .ref hs, .int (nI cl)])), aI cy hw 144 Wv, aI cy hs 12 (mS (up (fun _ => 1000) a 0))] H := hP
          have hD : va_D A [(hq, .inr (2, [.ref hw, .ref hs, .int (nI cl)])), aI cy hw 144 Wv, aI cy hs 12 (mS (up (fun _ => 1000) a 0))] := hD
          refine lv_iconst (v := (nI 1)) hx hb dX2_wayBySweeps_45 (by decide) ?_
          refine lv_istore_n (lv' := [(3, .int (nI 1)), (0, .ref hq), (1, .int (nI a)), (2, .int (nI b))]) hx hb dX2_wayBySweeps_46 rfl hl (by decide) rfl (fun ls hl => ?_)
          refine lv_iconst (v := (nI 0)) hx hb dX2_wayBySweeps_47 (by decide) ?_
          refine lv_istore (lv' := [(4, .int (nI 0)), (3, .int (nI 1)), (0, .ref hq), (1, .int (nI a)), (2, .int (nI b))]) hx hb dX2_wayBySweeps_48 hl (by decide) rfl (fun ls hl => ?_)
          have hl : lv_has ls 5 [(4, .int (nI 0)), (3, .int (bI true)), (0, .ref hq), (1, .int (nI a)), (2, .int (nI b))] := by rw [← show (nI 1) = (bI true) from rfl]; exact hl
          refine lp_rule (σ := (Nat) × (Nat → Nat) × (Bool)) (fun x9 H9 locs9 ls9 => va_P g vwCl [(hq, .inr (2, [.ref hw, .ref hs, .int (nI cl)])), aI cy hw 144 Wv, aI cy hs 12 (mS x9.2.1)] H9 ∧ va_D A [(hq, .inr (2, [.ref hw, .ref hs, .int (nI cl)])), aI cy hw 144 Wv, aI cy hs 12 (mS x9.2.1)] ∧ va_S A s.heap H9 locs9 ∧ lv_has ls9 5 [(0, .ref hq), (1, .int (nI a)), (2, .int (nI b)), (3, .int (bI x9.2.2)), (4, .int (nI x9.1))] ∧ (x9.1 ≤ 13) ∧ (swOk σ a (34 * x9.1) x9.2.1) ∧ (if x9.2.2 = true then swD σ a x9.1 x9.2.1 else swD σ a 12 x9.2.1)) (fun x9 => 13 - x9.1) (0, up (fun _ => 1000) a 0, true) ⟨hP, hD, hS, lv_sub hl [2, 3, 4, 1, 0] rfl, (by omega), (sw_start ha), (by rw [if_pos rfl]; exact swD_0 (w := up (fun _ => 1000) a 0) ha up_s)⟩ ?_
          rintro ⟨r, w, ch⟩ H locs ls ⟨hP, hD, hS, hl, hr9, hok, hd⟩ ih50
          try dsimp only at hl hr9 hok hd hP hD ih50
          refine lv_iload hx hb dX2_wayBySweeps_50 (lv_at hl 4 rfl) ?_
          refine lv_bipush (v := (nI 12)) hx hb dX2_wayBySweeps_52 (by decide) ?_
          refine lv_icmp_gt (tgt := 72) hx hb dX2_wayBySweeps_54 (by decide) (fun c_54 => ?_) (fun c_54 => ?_)
          · have c_54 := (nc_lt (by omega) (by omega) c_54)
            have hfin := sw_fin ha hb9 hok (by omega) hd (Or.inl (by omega))
            have hwb : w b ≤ 1000 := (hok.2 b hb9).elim (fun e => by omega) (fun q => by have := q.1; omega)
            refine lv_aload_n hx hb dX2_wayBySweeps_72 rfl (lv_at hl 0 rfl) ?_
            refine va_get (D := g) (ci := 2) (v := .ref hs) (C := RX2) (T := TX2) (N := 3) hx hb hts bgX2 hown hK hP 0 rfl rfl 1 (by decide) (hts _ wd2_21) (fun _ h9 => h9) rfl dX2_wayBySweeps_73 ?_
            refine lv_iload_n hx hb dX2_wayBySweeps_76 rfl (lv_at hl 2 rfl) ?_
            refine va_iald hx hb hK hP 2 0 rfl rfl (vp_in_nI (n := b) (by omega) (by omega)) dX2_wayBySweeps_77 ?_
            refine ti (show (mS w) (nI b).toNatClampNeg = nI (w b) from by rw [nI_clamp (by omega)]; rfl) ?_
            refine ti (show (nI (w b)) = (nI (w b)) from rfl) ?_
            refine lv_sipush (v := (nI 1000)) hx hb dX2_wayBySweeps_78 (by decide) ?_
            refine lv_icmp_ne (tgt := 88) hx hb dX2_wayBySweeps_81 (by decide) (fun c_81 => ?_) (fun c_81 => ?_)
            · have c_81 := (nc_ne9 (by omega) (by omega) c_81)
              refine lv_aload_n hx hb dX2_wayBySweeps_88 rfl (lv_at hl 0 rfl) ?_
              refine va_get (D := g) (ci := 2) (v := .ref hs) (C := RX2) (T := TX2) (N := 3) hx hb hts bgX2 hown hK hP 0 rfl rfl 1 (by decide) (hts _ wd2_21) (fun _ h9 => h9) rfl dX2_wayBySweeps_89 ?_
              refine lv_iload_n hx hb dX2_wayBySweeps_92 rfl (lv_at hl 2 rfl) ?_
              refine va_iald hx hb hK hP 2 0 rfl rfl (vp_in_nI (n := b) (by omega) (by omega)) dX2_wayBySweeps_93 ?_
              refine ti (show (mS w) (nI b).toNatClampNeg = nI (w b) from by rw [nI_clamp (by omega)]; rfl) ?_
              exact wr_i w (congrArg (fun x => some (Value.int x)) (sw_v2 hfin c_81)) trivial hP hS hx hb hr dX2_wayBySweeps_94 hlk
            · have c_81 := (nc_eq9 (by omega) (by omega) c_81)
              refine lv_iconst (v := (-1)) hx hb dX2_wayBySweeps_84 (by decide) ?_
              refine lv_goto (tgt := 94) hx hb dX2_wayBySweeps_85 (by decide) ?_
              exact wr_i w (congrArg (fun x => some (Value.int x)) (sw_v1 hfin c_81)) trivial hP hS hx hb hr dX2_wayBySweeps_94 hlk
          · have c_54 := (nc_nlt (by omega) (by omega) c_54)
            refine lv_iload_n hx hb dX2_wayBySweeps_57 rfl (lv_at hl 3 rfl) ?_
            refine lv_if_eq (tgt := 72) hx hb dX2_wayBySweeps_58 (by decide) (fun c_58 => ?_) (fun c_58 => ?_)
            · have c_58 := (bI_eq0.mp c_58)
              have hfin := sw_fin ha hb9 hok (by omega) hd (Or.inr c_58)
              have hwb : w b ≤ 1000 := (hok.2 b hb9).elim (fun e => by omega) (fun q => by have := q.1; omega)
              refine lv_aload_n hx hb dX2_wayBySweeps_72 rfl (lv_at hl 0 rfl) ?_
              refine va_get (D := g) (ci := 2) (v := .ref hs) (C := RX2) (T := TX2) (N := 3) hx hb hts bgX2 hown hK hP 0 rfl rfl 1 (by decide) (hts _ wd2_21) (fun _ h9 => h9) rfl dX2_wayBySweeps_73 ?_
              refine lv_iload_n hx hb dX2_wayBySweeps_76 rfl (lv_at hl 2 rfl) ?_
              refine va_iald hx hb hK hP 2 0 rfl rfl (vp_in_nI (n := b) (by omega) (by omega)) dX2_wayBySweeps_77 ?_
              refine ti (show (mS w) (nI b).toNatClampNeg = nI (w b) from by rw [nI_clamp (by omega)]; rfl) ?_
              refine ti (show (nI (w b)) = (nI (w b)) from rfl) ?_
              refine lv_sipush (v := (nI 1000)) hx hb dX2_wayBySweeps_78 (by decide) ?_
              refine lv_icmp_ne (tgt := 88) hx hb dX2_wayBySweeps_81 (by decide) (fun c_81 => ?_) (fun c_81 => ?_)
              · have c_81 := (nc_ne9 (by omega) (by omega) c_81)
                refine lv_aload_n hx hb dX2_wayBySweeps_88 rfl (lv_at hl 0 rfl) ?_
                refine va_get (D := g) (ci := 2) (v := .ref hs) (C := RX2) (T := TX2) (N := 3) hx hb hts bgX2 hown hK hP 0 rfl rfl 1 (by decide) (hts _ wd2_21) (fun _ h9 => h9) rfl dX2_wayBySweeps_89 ?_
                refine lv_iload_n hx hb dX2_wayBySweeps_92 rfl (lv_at hl 2 rfl) ?_
                refine va_iald hx hb hK hP 2 0 rfl rfl (vp_in_nI (n := b) (by omega) (by omega)) dX2_wayBySweeps_93 ?_
                refine ti (show (mS w) (nI b).toNatClampNeg = nI (w b) from by rw [nI_clamp (by omega)]; rfl) ?_
                exact wr_i w (congrArg (fun x => some (Value.int x)) (sw_v2 hfin c_81)) trivial hP hS hx hb hr dX2_wayBySweeps_94 hlk
              · have c_81 := (nc_eq9 (by omega) (by omega) c_81)
                refine lv_iconst (v := (-1)) hx hb dX2_wayBySweeps_84 (by decide) ?_
                refine lv_goto (tgt := 94) hx hb dX2_wayBySweeps_85 (by decide) ?_
                exact wr_i w (congrArg (fun x => some (Value.int x)) (sw_v1 hfin c_81)) trivial hP hS hx hb hr dX2_wayBySweeps_94 hlk
            · have c_58 := (bI_ne0.mp c_58)
              refine lv_aload_n hx hb dX2_wayBySweeps_61 rfl (lv_at hl 0 rfl) ?_
              have hw62 : ∀ x, x < 12 → w x ≤ 1000 := fun x hx => (hok.2 x hx).elim (fun e => by omega) (fun q => by have := q.1; omega)
              refine wr_call (wc := [(hq, .inr (2, [.ref hw, .ref hs, .int (nI cl)])), aI cy hw 144 Wv, aI cy hs 12 (mS w)]) (va_runV (As := []) (rest := []) ⟨hx, hb, hml, hown, hts⟩ (c_X2_sweepOnce l g cy hq hw hs H.size Wv w cl (by omega) hw62) ⟨(cB 0 hts wd21_8 wd2_7 wd21_5 rfl rfl (by decide +kernel) ⟨Nat.le_of_ble_eq_true rfl, Nat.le_of_ble_eq_true rfl⟩), hts _ wd21_6, hts _ wd21_7⟩ (pv hK hP hD hS hA hX [0, 1, 2] rfl rfl 2 0 rfl rfl) rfl rfl hl.1 rfl (lv_room (Nat.le_of_ble_eq_true rfl)) dX2_wayBySweeps_62 ⟨Nat.zero_le _, Nat.zero_le _⟩) hP hD hS hA [0, 1, 2] rfl rfl (fun _ => rfl) ?_
              rintro _u9 H locs - hP hD hS
              have hP : va_P g vwCl [(hq, .inr (2, [.ref hw, .ref hs, .int (nI cl)])), aI cy hw 144 Wv, aI cy hs 12 (mS (swp cl 17 w))] H := hP
              have hD : va_D A [(hq, .inr (2, [.ref hw, .ref hs, .int (nI cl)])), aI cy hw 144 Wv, aI cy hs 12 (mS (swp cl 17 w))] := hD
              show W _ _ _ _ _ _ _ _ _ _ _ _ _ _ _ (F0 mX 65 ls [.int (bI (swpB cl 17 w))])
              refine lv_istore_n (lv' := [(3, .int (bI (swpB cl 17 w))), (0, .ref hq), (1, .int (nI a)), (2, .int (nI b)), (4, .int (nI r))]) hx hb dX2_wayBySweeps_65 rfl hl (by decide) rfl (fun ls hl => ?_)
              refine lv_iinc (v := (nI (r + 1))) (lv' := [(4, .int (nI (r + 1))), (3, .int (bI (swpB cl 17 w))), (0, .ref hq), (1, .int (nI a)), (2, .int (nI b))]) hx hb dX2_wayBySweeps_66 hl (k := 4) rfl (nI_add r 1) (by decide) rfl (fun ls hl => ?_)
              refine lv_goto (tgt := 50) hx hb dX2_wayBySweeps_69 (by decide) ?_
              exact ih50 (r + 1, swp cl 17 w, swpB cl 17 w) H locs ls ⟨hP, hD, hS, lv_sub hl [2, 3, 4, 1, 0] rfl, (by omega), (swp_ok hR ha 17 (34 * r) w (by omega) (by omega) hok), (sw_next hR ha hok c_58 hd)⟩ (by first | omega | (dsimp only; omega))
        · have c_23 := (nc_nlt (by omega) (by omega) c_23)
          omega
