/-! ROWS: a table of numbers. rget: what get answers; rput: the cells behind put. -/
def hasR (cnt : Nat) (row : Int32) : Bool := !decide (row < 0) && !decide (nI cnt ≤ row)
def getR (cf : Nat → Int32) (wi cnt : Nat) (row : Int32) (fd : Nat) : Int32 := if row < 0 then 0 else if nI cnt ≤ row then 0 else cf (row.toNatClampNeg * wi + fd)
def putR (cf : Nat → Int32) (wi cnt : Nat) (row : Int32) (fd : Nat) (v : Int32) : Nat → Int32 := if row < 0 then cf else if nI cnt ≤ row then cf else upd cf (row.toNatClampNeg * wi + fd) v
theorem hasR_n {cnt j : Nat} (hj : j < 2 ^ 31) (hc : cnt < 2 ^ 31) : hasR cnt (nI j) = decide (j < cnt) := by
  rw [Bool.eq_iff_iff]
  simp [hasR, nI_pos hj, nI_leI hc hj]
theorem getR_n {cf : Nat → Int32} {wi cnt j fd : Nat} (hj : j < cnt) (hc : cnt < 2 ^ 31) : getR cf wi cnt (nI j) fd = cf (j * wi + fd) := by
  have h : j < 2 ^ 31 := by omega
  simp [getR, nI_pos h, nI_leI hc h, Nat.not_le.mpr hj, nI_clamp h]
theorem putR_n {cf : Nat → Int32} {wi cnt j fd : Nat} {v : Int32} (hj : j < cnt) (hc : cnt < 2 ^ 31) : putR cf wi cnt (nI j) fd v = upd cf (j * wi + fd) v := by
  have h : j < 2 ^ 31 := by omega
  simp [putR, nI_pos h, nI_leI hc h, Nat.not_le.mpr hj, nI_clamp h]

set_option maxHeartbeats 4000000 in
set_option maxRecDepth 100000 in
/-- count() -/
theorem c_X3_count (l : Launch) (g : va_G) (cy : Nat → ClassId) (h hc : Nat) (sz : Nat) (mo : Nat) (wi : Nat) (nn : Nat) (cf : Nat → Int32) (cnt : Nat) : Met l yX3_count (Cond.code yX3_count cX3_count 1 (some .int) :: wsL_law) ({ frames := 0, cells := 0, slots := 0, locals := 0 } : Room) (va_Pc [.ref h] (pr g cy [(h, .inr (3, [.int (nI mo), .int (nI wi), .ref hc, .int (nI cnt)])), aI cy hc nn cf] sz)) (rd_Q (some (.int (nI cnt)))) 0 0 (nF) := by
  refine mt_of (cc := cX3_count) (maxL := 1) (ret := (some .int)) (by decide +kernel) (Nat.le_of_ble_eq_true rfl) ?_
  intro p9 e9 s m9 below meth c9 ls A hx hb hr hml hown hts hlk hin hsz hAe hA hP hD hK hX hl
  have hl : lv_has ls 1 [(0, .ref h)] := hl
  have hS : va_S A s.heap s.heap [] := va_S.rf
  refine lv_aload_n hx hb dX3_count_0 rfl (lv_at hl 0 rfl) ?_
  refine va_get (D := g) (ci := 3) (v := .int (nI cnt)) (C := RX3) (T := TX3) (N := 4) hx hb hts bgX3 hown hK hP 0 rfl rfl 3 (by decide) (hts _ wd5_10) (fun _ h9 => h9) rfl dX3_count_1 ?_
  exact rd_i rfl hx hb hr dX3_count_4 hlk
set_option maxHeartbeats 4000000 in
set_option maxRecDepth 100000 in
theorem c_X3_isFull (l : Launch) (g : va_G) (cy : Nat → ClassId) (h hc : Nat) (sz : Nat) (mo : Nat) (wi : Nat) (nn : Nat) (cf : Nat → Int32) (cnt : Nat) (hmo : mo ≤ 20) (hcnt : cnt ≤ mo) : Met l yX3_isFull (Cond.code yX3_isFull cX3_isFull 1 (some .boolean) :: wsL_law) ({ frames := 0, cells := 0, slots := 0, locals := 0 } : Room) (va_Pc [.ref h] (pr g cy [(h, .inr (3, [.int (nI mo), .int (nI wi), .ref hc, .int (nI cnt)])), aI cy hc nn cf] sz)) (rd_Q (some (.int (bI (decide (mo ≤ cnt)))))) 0 0 (nF) := by
  refine mt_of (cc := cX3_isFull) (maxL := 1) (ret := (some .boolean)) (by decide +kernel) (Nat.le_of_ble_eq_true rfl) ?_
  intro p9 e9 s m9 below meth c9 ls A hx hb hr hml hown hts hlk hin hsz hAe hA hP hD hK hX hl
  have hl : lv_has ls 1 [(0, .ref h)] := hl
  have hS : va_S A s.heap s.heap [] := va_S.rf
  refine lv_aload_n hx hb dX3_isFull_0 rfl (lv_at hl 0 rfl) ?_
  refine va_get (D := g) (ci := 3) (v := .int (nI cnt)) (C := RX3) (T := TX3) (N := 4) hx hb hts bgX3 hown hK hP 0 rfl rfl 3 (by decide) (hts _ wd5_10) (fun _ h9 => h9) rfl dX3_isFull_1 ?_
  refine lv_aload_n hx hb dX3_isFull_4 rfl (lv_at hl 0 rfl) ?_
  refine va_get (D := g) (ci := 3) (v := .int (nI mo)) (C := RX3) (T := TX3) (N := 4) hx hb hts bgX3 hown hK hP 0 rfl rfl 0 (by decide) (hts _ wd3_2) (fun _ h9 => h9) rfl dX3_isFull_5 ?_
  refine lv_icmp_lt (tgt := 15) hx hb dX3_isFull_8 (by decide) (fun c_8 => ?_) (fun c_8 => ?_)
  · have c_8 := (nc_lt (by omega) (by omega) c_8)
    refine lv_iconst (v := (nI 0)) hx hb dX3_isFull_15 (by decide) ?_
    exact rd_z (by have := c_8; simp [bI, nI_o, nI_0]; try omega) hx hb hr dX3_isFull_16 hlk
  · have c_8 := (nc_nlt (by omega) (by omega) c_8)
    refine lv_iconst (v := (nI 1)) hx hb dX3_isFull_11 (by decide) ?_
    refine lv_goto (tgt := 16) hx hb dX3_isFull_12 (by decide) ?_
    exact rd_z (by have := c_8; simp [bI, nI_o, nI_0]; try omega) hx hb hr dX3_isFull_16 hlk
set_option maxHeartbeats 4000000 in
set_option maxRecDepth 100000 in
theorem c_X3_has (l : Launch) (g : va_G) (cy : Nat → ClassId) (h hc : Nat) (sz : Nat) (mo : Nat) (wi : Nat) (nn : Nat) (cf : Nat → Int32) (cnt : Nat) (row : Int32) (hcnt : cnt ≤ 20) : Met l yX3_has (Cond.code yX3_has cX3_has 2 (some .boolean) :: wsL_law) ({ frames := 0, cells := 0, slots := 0, locals := 0 } : Room) (va_Pc [.ref h, .int row] (pr g cy [(h, .inr (3, [.int (nI mo), .int (nI wi), .ref hc, .int (nI cnt)])), aI cy hc nn cf] sz)) (rd_Q (some (.int (bI (hasR cnt row))))) 0 0 (nF) := by
  refine mt_of (cc := cX3_has) (maxL := 2) (ret := (some .boolean)) (by decide +kernel) (Nat.le_of_ble_eq_true rfl) ?_
  intro p9 e9 s m9 below meth c9 ls A hx hb hr hml hown hts hlk hin hsz hAe hA hP hD hK hX hl
  have hl : lv_has ls 2 [(0, .ref h), (1, .int row)] := hl
  have hS : va_S A s.heap s.heap [] := va_S.rf
  refine lv_iload_n hx hb dX3_has_0 rfl (lv_at hl 1 rfl) ?_
  refine lv_if_lt (tgt := 16) hx hb dX3_has_1 (by decide) (fun c_1 => ?_) (fun c_1 => ?_)
  · skip
    refine lv_iconst (v := (nI 0)) hx hb dX3_has_16 (by decide) ?_
    exact rd_z (by simp [hasR, c_1, bI, nI_0, nI_o]) hx hb hr dX3_has_17 hlk
  · skip
    refine lv_iload_n hx hb dX3_has_4 rfl (lv_at hl 1 rfl) ?_
    refine lv_aload_n hx hb dX3_has_5 rfl (lv_at hl 0 rfl) ?_
    refine va_get (D := g) (ci := 3) (v := .int (nI cnt)) (C := RX3) (T := TX3) (N := 4) hx hb hts bgX3 hown hK hP 0 rfl rfl 3 (by decide) (hts _ wd5_10) (fun _ h9 => h9) rfl dX3_has_6 ?_
    refine lv_icmp_ge (tgt := 16) hx hb dX3_has_9 (by decide) (fun c_9 => ?_) (fun c_9 => ?_)
    · skip
      refine lv_iconst (v := (nI 0)) hx hb dX3_has_16 (by decide) ?_
      exact rd_z (by simp [hasR, c_1, c_9, bI, nI_0, nI_o]) hx hb hr dX3_has_17 hlk
    · skip
      refine lv_iconst (v := (nI 1)) hx hb dX3_has_12 (by decide) ?_
      refine lv_goto (tgt := 17) hx hb dX3_has_13 (by decide) ?_
      exact rd_z (by simp [hasR, c_1, c_9, bI, nI_0, nI_o]) hx hb hr dX3_has_17 hlk
set_option maxHeartbeats 4000000 in
set_option maxRecDepth 100000 in
/-- get(row, field) -/
theorem c_X3_get (l : Launch) (g : va_G) (cy : Nat → ClassId) (h hc : Nat) (sz : Nat) (mo : Nat) (wi : Nat) (nn : Nat) (cf : Nat → Int32) (cnt : Nat) (row : Int32) (fd : Nat) (hmo : mo ≤ 20) (hwi : wi ≤ 11) (hnn : mo * wi = nn) (hnn2 : nn ≤ 220) (hcnt : cnt ≤ mo) (hfd : fd < wi) : Met l yX3_get (Cond.code yX3_get cX3_get 4 (some .int) :: wsL_law) ({ frames := 0, cells := 0, slots := 0, locals := 0 } : Room) (va_Pc [.ref h, .int row, .int (nI fd)] (pr g cy [(h, .inr (3, [.int (nI mo), .int (nI wi), .ref hc, .int (nI cnt)])), aI cy hc nn cf] sz)) (rd_Q (some (.int (getR cf wi cnt row fd)))) 0 0 (nF) := by
  refine mt_of (cc := cX3_get) (maxL := 4) (ret := (some .int)) (by decide +kernel) (Nat.le_of_ble_eq_true rfl) ?_
  intro p9 e9 s m9 below meth c9 ls A hx hb hr hml hown hts hlk hin hsz hAe hA hP hD hK hX hl
  have hl : lv_has ls 4 [(0, .ref h), (1, .int row), (2, .int (nI fd))] := hl
  have hS : va_S A s.heap s.heap [] := va_S.rf
  refine lv_iload_n hx hb dX3_get_0 rfl (lv_at hl 1 rfl) ?_
  refine lv_aload_n hx hb dX3_get_1 rfl (lv_at hl 0 rfl) ?_
  refine va_get (D := g) (ci := 3) (v := .int (nI wi)) (C := RX3) (T := TX3) (N := 4) hx hb hts bgX3 hown hK hP 0 rfl rfl 1 (by decide) (hts _ wd3_3) (fun _ h9 => h9) rfl dX3_get_2 ?_
  refine lv_imul hx hb dX3_get_5 ?_
  refine lv_iload_n hx hb dX3_get_6 rfl (lv_at hl 2 rfl) ?_
  refine lv_iadd hx hb dX3_get_7 ?_
  refine lv_istore_n (lv' := [(3, .int ((row * (nI wi)) + (nI fd))), (0, .ref h), (1, .int row), (2, .int (nI fd))]) hx hb dX3_get_8 rfl hl (by decide) rfl (fun ls hl => ?_)
  refine lv_iload_n hx hb dX3_get_9 rfl (lv_at hl 2 rfl) ?_
  refine lv_if_lt (tgt := 43) hx hb dX3_get_10 (by decide) (fun c_10 => ?_) (fun c_10 => ?_)
  · skip
    refine lv_iconst (v := (nI 0)) hx hb dX3_get_43 (by decide) ?_
    exact rd_i (by simp [getR, nI_0, c_10]) hx hb hr dX3_get_44 hlk
  · skip
    refine lv_iload_n hx hb dX3_get_13 rfl (lv_at hl 2 rfl) ?_
    refine lv_aload_n hx hb dX3_get_14 rfl (lv_at hl 1 rfl) ?_
    refine va_get (D := g) (ci := 3) (v := .int (nI cnt)) (C := RX3) (T := TX3) (N := 4) hx hb hts bgX3 hown hK hP 0 rfl rfl 3 (by decide) (hts _ wd5_10) (fun _ h9 => h9) rfl dX3_get_15 ?_
    refine lv_icmp_ge (tgt := 43) hx hb dX3_get_18 (by decide) (fun c_18 => ?_) (fun c_18 => ?_)
    · skip
      refine lv_iconst (v := (nI 0)) hx hb dX3_get_43 (by decide) ?_
      exact rd_i (by simp [getR, nI_0, c_10, c_18]) hx hb hr dX3_get_44 hlk
    · skip
      obtain ⟨j, hj, rfl⟩ := rowN (by omega) c_10 c_18
      have hix := ix_lt hj hcnt hfd hnn
      refine lv_iload_n hx hb dX3_get_21 rfl (lv_at hl 0 rfl) ?_
      refine ti (show (((nI j) * (nI wi)) + (nI fd)) = (nI (j * wi + fd)) from (by rw [pk_mul, nI_add])) ?_
      refine lv_if_lt (tgt := 43) hx hb dX3_get_22 (by decide) (fun c_22 => ?_) (fun c_22 => ?_)
      · exact absurd c_22 (nI_pos (by omega))
      · skip
        refine lv_iload_n hx hb dX3_get_25 rfl (lv_at hl 0 rfl) ?_
        refine ti (show (((nI j) * (nI wi)) + (nI fd)) = (nI (j * wi + fd)) from (by rw [pk_mul, nI_add])) ?_
        refine lv_aload_n hx hb dX3_get_26 rfl (lv_at hl 1 rfl) ?_
        refine va_get (D := g) (ci := 3) (v := .ref hc) (C := RX3) (T := TX3) (N := 4) hx hb hts bgX3 hown hK hP 0 rfl rfl 2 (by decide) (hts _ wd3_8) (fun _ h9 => h9) rfl dX3_get_27 ?_
        refine va_alen (v := nI nn) hx hb hK hP 1 0 rfl rfl rfl dX3_get_30 ?_
        refine lv_icmp_ge (tgt := 43) hx hb dX3_get_31 (by decide) (fun c_31 => ?_) (fun c_31 => ?_)
        · have c_31 := (nc_le (by omega) (by omega) c_31)
          omega
        · have c_31 := (nc_nle (by omega) (by omega) c_31)
          refine lv_aload_n hx hb dX3_get_34 rfl (lv_at hl 1 rfl) ?_
          refine va_get (D := g) (ci := 3) (v := .ref hc) (C := RX3) (T := TX3) (N := 4) hx hb hts bgX3 hown hK hP 0 rfl rfl 2 (by decide) (hts _ wd3_8) (fun _ h9 => h9) rfl dX3_get_35 ?_
          refine lv_iload_n hx hb dX3_get_38 rfl (lv_at hl 0 rfl) ?_
          refine ti (show (((nI j) * (nI wi)) + (nI fd)) = (nI (j * wi + fd)) from (by rw [pk_mul, nI_add])) ?_
          refine va_iald hx hb hK hP 1 0 rfl rfl (vp_in_nI (n := (j * wi + fd)) (by omega) (by omega)) dX3_get_39 ?_
          refine ti (show cf (nI (j * wi + fd)).toNatClampNeg = cf (j * wi + fd) from by rw [nI_clamp (by omega)]) ?_
          refine lv_goto (tgt := 44) hx hb dX3_get_40 (by decide) ?_
          exact rd_i (getR_n hj (by omega)).symm hx hb hr dX3_get_44 hlk
