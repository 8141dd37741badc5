/-! STATICS -/
def inR (v lo hi : Int32) : Bool := !decide (v < lo) && !decide (hi < v)
theorem inR_n {v lo hi : Nat} (h1 : v < 2 ^ 31) (h2 : lo < 2 ^ 31) (h3 : hi < 2 ^ 31) : inR (nI v) (nI lo) (nI hi) = (decide (lo ≤ v) && decide (v ≤ hi)) := by
  rw [Bool.eq_iff_iff]
  simp [inR, nI_ltI h1 h2, nI_ltI h3 h1]
/-- a number that is in a range of naturals is one of them -/
theorem inR_ex {v : Int32} {lo hi : Nat} (hh : hi < 2 ^ 31) (hl : lo ≤ hi) (h : inR v (nI lo) (nI hi) = true) : ∃ j : Nat, lo ≤ j ∧ j ≤ hi ∧ v = nI j := by
  simp only [inR, Bool.and_eq_true, Bool.not_eq_true', decide_eq_false_iff_not] at h
  have h0 : ¬ v < 0 := by
    intro q
    apply h.1
    have a := Int32.lt_iff_toInt_lt.mp q
    rw [Int32.toInt_zero] at a
    rw [Int32.lt_iff_toInt_lt, nI_toInt (by omega)]
    omega
  obtain ⟨j, hj, rfl⟩ := nI_of h0
  refine ⟨j, ?_, ?_, rfl⟩
  · exact Nat.not_lt.mp fun q => h.1 ((nI_ltI hj (by omega)).mpr q)
  · exact Nat.not_lt.mp fun q => h.2 ((nI_ltI hh hj).mpr q)
theorem bc1_le (m : Nat) : bc1 m ≤ m := Nat.sub_le _ _
theorem bc2_le (m : Nat) : bc2 m ≤ 1717986918 := by
  have h1 : m &&& 858993459 ≤ 858993459 := Nat.and_le_right
  have h2 : m / 4 &&& 858993459 ≤ 858993459 := Nat.and_le_right
  unfold bc2
  omega
theorem bc3_le (m : Nat) : bc3 m ≤ 252645135 := Nat.and_le_right
/-- the first i of an array written -/
def flF (f : Nat → Int32) (v : Int32) (i : Nat) : Nat → Int32 := fun j => if j < i then v else f j
theorem flF_0 {f : Nat → Int32} {v : Int32} : flF f v 0 = f := by funext j; simp [flF]
theorem flF_s {f : Nat → Int32} {v : Int32} {i : Nat} : upd (flF f v i) i v = flF f v (i + 1) := by
  funext j
  by_cases h : j = i
  · subst h; simp [upd, flF]
  · have h2 : j < i + 1 ↔ j < i := by omega
    simp [upd, flF, h, h2]

set_option maxHeartbeats 4000000 in
set_option maxRecDepth 100000 in
theorem c_J6_bitCount_0f7a4 (l : Launch) (m : Nat) (hm : m < 2 ^ 24) : Met l yJ6_bitCount_0f7a4 (Cond.code yJ6_bitCount_0f7a4 cJ6_bitCount_0f7a4 1 (some .int) :: wsL_law) ({ frames := 0, cells := 0, slots := 0, locals := 0 } : Room) (va_Pc [.int (nI m)] (fun _ => True)) (rd_Q (some (.int (nI (ct m.testBit 24))))) 0 0 (nF) := by
  refine mt_0 (cc := cJ6_bitCount_0f7a4) (maxL := 1) (ret := (some .int)) (by decide +kernel) (Nat.le_of_ble_eq_true rfl) ?_
  intro p9 e9 s m9 below meth c9 ls hx hb hr hml hown hts hlk hl
  have hl : lv_has ls 1 [(0, .int (nI m))] := hl
  have k1 := bc1_le m
  have k2 := bc2_le (bc1 m)
  have k3 := bc3_le (bc2 (bc1 m))
  refine lv_iload_n hx hb dJ6_bitCount_0f7a4_0 rfl (lv_at hl 0 rfl) ?_
  refine lv_iload_n hx hb dJ6_bitCount_0f7a4_1 rfl (lv_at hl 0 rfl) ?_
  refine lv_iconst (v := (nI 1)) hx hb dJ6_bitCount_0f7a4_2 (by decide) ?_
  refine lv_iushr (v := (nI (m / 2))) hx hb dJ6_bitCount_0f7a4_3 (nb_ushr (m := m) (k := 1) (by omega) (by omega)) ?_
  refine lv_ldcw hx hb hown (hts _ wd14_8) dJ6_bitCount_0f7a4_4 ?_
  refine ti (show (1431655765 : Int32) = nI 1431655765 from by decide) ?_
  refine lv_iand hx hb dJ6_bitCount_0f7a4_7 ?_
  refine ti (nx_and (m / 2) 1431655765) ?_
  refine lv_isub hx hb dJ6_bitCount_0f7a4_8 ?_
  refine ti (show ((nI m) - (nI ((m / 2) &&& 1431655765))) = (nI (bc1 m)) from (pk_sub (Nat.le_trans Nat.and_le_left (Nat.div_le_self _ _)))) ?_
  refine lv_istore_n (lv' := [(0, .int (nI (bc1 m)))]) hx hb dJ6_bitCount_0f7a4_9 rfl hl (by decide) rfl (fun ls hl => ?_)
  refine lv_iload_n hx hb dJ6_bitCount_0f7a4_10 rfl (lv_at hl 0 rfl) ?_
  refine lv_ldcw hx hb hown (hts _ wd14_9) dJ6_bitCount_0f7a4_11 ?_
  refine ti (show (858993459 : Int32) = nI 858993459 from by decide) ?_
  refine lv_iand hx hb dJ6_bitCount_0f7a4_14 ?_
  refine ti (nx_and (bc1 m) 858993459) ?_
  refine lv_iload_n hx hb dJ6_bitCount_0f7a4_15 rfl (lv_at hl 0 rfl) ?_
  refine lv_iconst (v := (nI 2)) hx hb dJ6_bitCount_0f7a4_16 (by decide) ?_
  refine lv_iushr (v := (nI ((bc1 m) / 4))) hx hb dJ6_bitCount_0f7a4_17 (nb_ushr (m := (bc1 m)) (k := 2) (by omega) (by omega)) ?_
  refine lv_ldcw hx hb hown (hts _ wd14_9) dJ6_bitCount_0f7a4_18 ?_
  refine ti (show (858993459 : Int32) = nI 858993459 from by decide) ?_
  refine lv_iand hx hb dJ6_bitCount_0f7a4_21 ?_
  refine ti (nx_and ((bc1 m) / 4) 858993459) ?_
  refine lv_iadd hx hb dJ6_bitCount_0f7a4_22 ?_
  refine ti (nI_add ((bc1 m) &&& 858993459) (((bc1 m) / 4) &&& 858993459)) ?_
  refine ti (show (nI (((bc1 m) &&& 858993459) + (((bc1 m) / 4) &&& 858993459))) = (nI (bc2 (bc1 m))) from rfl) ?_
  refine lv_istore_n (lv' := [(0, .int (nI (bc2 (bc1 m))))]) hx hb dJ6_bitCount_0f7a4_23 rfl hl (by decide) rfl (fun ls hl => ?_)
  refine lv_iload_n hx hb dJ6_bitCount_0f7a4_24 rfl (lv_at hl 0 rfl) ?_
  refine lv_iload_n hx hb dJ6_bitCount_0f7a4_25 rfl (lv_at hl 0 rfl) ?_
  refine lv_iconst (v := (nI 4)) hx hb dJ6_bitCount_0f7a4_26 (by decide) ?_
  refine lv_iushr (v := (nI ((bc2 (bc1 m)) / 16))) hx hb dJ6_bitCount_0f7a4_27 (nb_ushr (m := (bc2 (bc1 m))) (k := 4) (by omega) (by omega)) ?_
  refine lv_iadd hx hb dJ6_bitCount_0f7a4_28 ?_
  refine ti (nI_add (bc2 (bc1 m)) ((bc2 (bc1 m)) / 16)) ?_
  refine lv_ldcw hx hb hown (hts _ wd14_10) dJ6_bitCount_0f7a4_29 ?_
  refine ti (show (252645135 : Int32) = nI 252645135 from by decide) ?_
  refine lv_iand hx hb dJ6_bitCount_0f7a4_32 ?_
  refine ti (nx_and ((bc2 (bc1 m)) + ((bc2 (bc1 m)) / 16)) 252645135) ?_
  refine ti (show (nI (((bc2 (bc1 m)) + ((bc2 (bc1 m)) / 16)) &&& 252645135)) = (nI (bc3 (bc2 (bc1 m)))) from rfl) ?_
  refine lv_istore_n (lv' := [(0, .int (nI (bc3 (bc2 (bc1 m)))))]) hx hb dJ6_bitCount_0f7a4_33 rfl hl (by decide) rfl (fun ls hl => ?_)
  refine lv_iload_n hx hb dJ6_bitCount_0f7a4_34 rfl (lv_at hl 0 rfl) ?_
  refine lv_iload_n hx hb dJ6_bitCount_0f7a4_35 rfl (lv_at hl 0 rfl) ?_
  refine lv_bipush (v := (nI 8)) hx hb dJ6_bitCount_0f7a4_36 (by decide) ?_
  refine lv_iushr (v := (nI ((bc3 (bc2 (bc1 m))) / 256))) hx hb dJ6_bitCount_0f7a4_38 (nb_ushr (m := (bc3 (bc2 (bc1 m)))) (k := 8) (by omega) (by omega)) ?_
  refine lv_iadd hx hb dJ6_bitCount_0f7a4_39 ?_
  refine ti (nI_add (bc3 (bc2 (bc1 m))) ((bc3 (bc2 (bc1 m))) / 256)) ?_
  refine ti (show (nI ((bc3 (bc2 (bc1 m))) + ((bc3 (bc2 (bc1 m))) / 256))) = (nI (bc4 (bc3 (bc2 (bc1 m))))) from rfl) ?_
  refine lv_istore_n (lv' := [(0, .int (nI (bc4 (bc3 (bc2 (bc1 m))))))]) hx hb dJ6_bitCount_0f7a4_40 rfl hl (by decide) rfl (fun ls hl => ?_)
  refine lv_iload_n hx hb dJ6_bitCount_0f7a4_41 rfl (lv_at hl 0 rfl) ?_
  refine lv_iload_n hx hb dJ6_bitCount_0f7a4_42 rfl (lv_at hl 0 rfl) ?_
  refine lv_bipush (v := (nI 16)) hx hb dJ6_bitCount_0f7a4_43 (by decide) ?_
  have k4 : bc4 (bc3 (bc2 (bc1 m))) < 2 ^ 32 := by unfold bc4; omega
  refine lv_iushr (v := (nI ((bc4 (bc3 (bc2 (bc1 m)))) / 65536))) hx hb dJ6_bitCount_0f7a4_45 (nb_ushr (m := (bc4 (bc3 (bc2 (bc1 m))))) (k := 16) (by omega) (by omega)) ?_
  refine lv_iadd hx hb dJ6_bitCount_0f7a4_46 ?_
  refine ti (nI_add (bc4 (bc3 (bc2 (bc1 m)))) ((bc4 (bc3 (bc2 (bc1 m)))) / 65536)) ?_
  refine ti (show (nI ((bc4 (bc3 (bc2 (bc1 m)))) + ((bc4 (bc3 (bc2 (bc1 m)))) / 65536))) = (nI (bc5 (bc4 (bc3 (bc2 (bc1 m)))))) from rfl) ?_
  refine lv_istore_n (lv' := [(0, .int (nI (bc5 (bc4 (bc3 (bc2 (bc1 m)))))))]) hx hb dJ6_bitCount_0f7a4_47 rfl hl (by decide) rfl (fun ls hl => ?_)
  refine lv_iload_n hx hb dJ6_bitCount_0f7a4_48 rfl (lv_at hl 0 rfl) ?_
  refine lv_bipush (v := (nI 63)) hx hb dJ6_bitCount_0f7a4_49 (by decide) ?_
  refine lv_iand hx hb dJ6_bitCount_0f7a4_51 ?_
  refine ti (nx_and (bc5 (bc4 (bc3 (bc2 (bc1 m))))) 63) ?_
  refine ti (show (nI ((bc5 (bc4 (bc3 (bc2 (bc1 m))))) &&& 63)) = (nI (ct m.testBit 24)) from (by rw [bc_eq hm])) ?_
  exact rd_i rfl hx hb hr dJ6_bitCount_0f7a4_52 hlk
set_option maxHeartbeats 4000000 in
set_option maxRecDepth 100000 in
theorem c_X7_isIn (l : Launch) (v : Int32) (lo : Int32) (hi : Int32) : Met l yX7_isIn (Cond.code yX7_isIn cX7_isIn 3 (some .boolean) :: wsL_law) ({ frames := 0, cells := 0, slots := 0, locals := 0 } : Room) (va_Pc [.int v, .int lo, .int hi] (fun _ => True)) (rd_Q (some (.int (bI (inR v lo hi))))) 0 0 (nF) := by
  refine mt_0 (cc := cX7_isIn) (maxL := 3) (ret := (some .boolean)) (by decide +kernel) (Nat.le_of_ble_eq_true rfl) ?_
  intro p9 e9 s m9 below meth c9 ls hx hb hr hml hown hts hlk hl
  have hl : lv_has ls 3 [(0, .int v), (1, .int lo), (2, .int hi)] := hl
  refine lv_iload_n hx hb dX7_isIn_0 rfl (lv_at hl 0 rfl) ?_
  refine lv_iload_n hx hb dX7_isIn_1 rfl (lv_at hl 1 rfl) ?_
  refine lv_icmp_lt (tgt := 14) hx hb dX7_isIn_2 (by decide) (fun c_2 => ?_) (fun c_2 => ?_)
  · skip
    refine lv_iconst (v := (nI 0)) hx hb dX7_isIn_14 (by decide) ?_
    exact rd_z (by simp [inR, bI, nI_0, nI_o, *]) hx hb hr dX7_isIn_15 hlk
  · skip
    refine lv_iload_n hx hb dX7_isIn_5 rfl (lv_at hl 0 rfl) ?_
    refine lv_iload_n hx hb dX7_isIn_6 rfl (lv_at hl 2 rfl) ?_
    refine lv_icmp_gt (tgt := 14) hx hb dX7_isIn_7 (by decide) (fun c_7 => ?_) (fun c_7 => ?_)
    · skip
      refine lv_iconst (v := (nI 0)) hx hb dX7_isIn_14 (by decide) ?_
      exact rd_z (by simp [inR, bI, nI_0, nI_o, *]) hx hb hr dX7_isIn_15 hlk
    · skip
      refine lv_iconst (v := (nI 1)) hx hb dX7_isIn_10 (by decide) ?_
      refine lv_goto (tgt := 15) hx hb dX7_isIn_11 (by decide) ?_
      exact rd_z (by simp [inR, bI, nI_0, nI_o, *]) hx hb hr dX7_isIn_15 hlk
set_option maxHeartbeats 4000000 in
set_option maxRecDepth 100000 in
theorem c_X7_isCorner (l : Launch) (v : Int32) : Met l yX7_isCorner (Cond.code yX7_isCorner cX7_isCorner 1 (some .boolean) :: wsL_law) ({ frames := 1, cells := 0, slots := 0, locals := 22 } : Room) (va_Pc [.int v] (fun _ => True)) (rd_Q (some (.int (bI (inR v (nI 0) (nI 11)))))) 0 0 (nF) := by
  refine mt_0 (cc := cX7_isCorner) (maxL := 1) (ret := (some .boolean)) (by decide +kernel) (Nat.le_of_ble_eq_true rfl) ?_
  intro p9 e9 s m9 below meth c9 ls hx hb hr hml hown hts hlk hl
  have hl : lv_has ls 1 [(0, .int v)] := hl
  refine lv_iload_n hx hb dX7_isCorner_0 rfl (lv_at hl 0 rfl) ?_
  refine lv_iconst (v := (nI 0)) hx hb dX7_isCorner_1 (by decide) ?_
  refine lv_bipush (v := (nI 11)) hx hb dX7_isCorner_2 (by decide) ?_
  refine rd_call (va_runS (As := [.int v, .int (nI 0), .int (nI 11)]) (rest := []) ⟨hx, hb, hml, hown, hts⟩ (c_X7_isIn l v (nI 0) (nI 11) ) ⟨(cB 3 hts wd6_15 wd1_2 wd6_13 rfl rfl (by decide +kernel) ⟨Nat.le_of_ble_eq_true rfl, Nat.le_of_ble_eq_true rfl⟩), hts _ wd6_14⟩ p0 rfl rfl hl.1 rfl (lv_room (Nat.le_of_ble_eq_true rfl)) dX7_isCorner_4 ⟨Nat.zero_le _, Nat.zero_le _⟩) ?_
  show W _ _ _ _ _ _ _ _ _ _ _ _ _ _ _ (F0 m9 7 ls [.int (bI (inR v (nI 0) (nI 11)))])
  exact rd_z rfl hx hb hr dX7_isCorner_7 hlk
set_option maxHeartbeats 4000000 in
set_option maxRecDepth 100000 in
theorem c_X7_isFinder (l : Launch) (v : Int32) : Met l yX7_isFinder (Cond.code yX7_isFinder cX7_isFinder 1 (some .boolean) :: wsL_law) ({ frames := 1, cells := 0, slots := 0, locals := 22 } : Room) (va_Pc [.int v] (fun _ => True)) (rd_Q (some (.int (bI (inR v (nI 0) (nI 7)))))) 0 0 (nF) := by
  refine mt_0 (cc := cX7_isFinder) (maxL := 1) (ret := (some .boolean)) (by decide +kernel) (Nat.le_of_ble_eq_true rfl) ?_
  intro p9 e9 s m9 below meth c9 ls hx hb hr hml hown hts hlk hl
  have hl : lv_has ls 1 [(0, .int v)] := hl
  refine lv_iload_n hx hb dX7_isFinder_0 rfl (lv_at hl 0 rfl) ?_
  refine lv_iconst (v := (nI 0)) hx hb dX7_isFinder_1 (by decide) ?_
  refine lv_bipush (v := (nI 7)) hx hb dX7_isFinder_2 (by decide) ?_
  refine rd_call (va_runS (As := [.int v, .int (nI 0), .int (nI 7)]) (rest := []) ⟨hx, hb, hml, hown, hts⟩ (c_X7_isIn l v (nI 0) (nI 7) ) ⟨(cB 3 hts wd6_15 wd1_2 wd6_13 rfl rfl (by decide +kernel) ⟨Nat.le_of_ble_eq_true rfl, Nat.le_of_ble_eq_true rfl⟩), hts _ wd6_14⟩ p0 rfl rfl hl.1 rfl (lv_room (Nat.le_of_ble_eq_true rfl)) dX7_isFinder_4 ⟨Nat.zero_le _, Nat.zero_le _⟩) ?_
  show W _ _ _ _ _ _ _ _ _ _ _ _ _ _ _ (F0 m9 7 ls [.int (bI (inR v (nI 0) (nI 7)))])
  exact rd_z rfl hx hb hr dX7_isFinder_7 hlk
set_option maxHeartbeats 4000000 in
set_option maxRecDepth 100000 in
theorem c_X7_hasBit (l : Launch) (m : Nat) (k : Nat) (hm : m < 2 ^ 31) (hk : k < 31) : Met l yX7_hasBit (Cond.code yX7_hasBit cX7_hasBit 2 (some .boolean) :: wsL_law) ({ frames := 0, cells := 0, slots := 0, locals := 0 } : Room) (va_Pc [.int (nI m), .int (nI k)] (fun _ => True)) (rd_Q (some (.int (bI (m.testBit k))))) 0 0 (nF) := by
  refine mt_0 (cc := cX7_hasBit) (maxL := 2) (ret := (some .boolean)) (by decide +kernel) (Nat.le_of_ble_eq_true rfl) ?_
  intro p9 e9 s m9 below meth c9 ls hx hb hr hml hown hts hlk hl
  have hl : lv_has ls 2 [(0, .int (nI m)), (1, .int (nI k))] := hl
  refine lv_iload_n hx hb dX7_hasBit_0 rfl (lv_at hl 0 rfl) ?_
  refine lv_iload_n hx hb dX7_hasBit_1 rfl (lv_at hl 1 rfl) ?_
  refine lv_ishr hx hb dX7_hasBit_2 ?_
  refine ti (nb_shr (m := m) (k := k) (by omega) (by omega)) ?_
  refine lv_iconst (v := (nI 1)) hx hb dX7_hasBit_3 (by decide) ?_
  refine lv_iand hx hb dX7_hasBit_4 ?_
  refine ti (nx_and (m / 2 ^ k) 1) ?_
  refine ti (show (nI ((m / 2 ^ k) &&& 1)) = (bI (m.testBit k)) from (by rw [← nx_and]; exact nb_bit)) ?_
  refine lv_if_eq (tgt := 12) hx hb dX7_hasBit_5 (by decide) (fun c_5 => ?_) (fun c_5 => ?_)
  · have c_5 := (bI_eq0.mp c_5)
    refine lv_iconst (v := (nI 0)) hx hb dX7_hasBit_12 (by decide) ?_
    exact rd_z (by simp [bI, nI_0, nI_o, c_5]) hx hb hr dX7_hasBit_13 hlk
  · have c_5 := (bI_ne0.mp c_5)
    refine lv_iconst (v := (nI 1)) hx hb dX7_hasBit_8 (by decide) ?_
    refine lv_goto (tgt := 13) hx hb dX7_hasBit_9 (by decide) ?_
    exact rd_z (by simp [bI, nI_0, nI_o, c_5]) hx hb hr dX7_hasBit_13 hlk
set_option maxHeartbeats 4000000 in
set_option maxRecDepth 100000 in
theorem c_J7_fill_53178 (l : Launch) (g : va_G) (cy : Nat → ClassId) (h : Nat) (sz : Nat) (n : Nat) (f : Nat → Int32) (v : Int32) (hn : n < 2 ^ 31) : Met l yJ7_fill_53178 (Cond.code yJ7_fill_53178 cJ7_fill_53178 4 none :: wsL_law) ({ frames := 0, cells := 0, slots := 0, locals := 0 } : Room) (va_Pc [.ref h, .int v] (pr g cy [aI cy h n f] sz)) (wr_Q (fun _ : Unit => none) (fun _ : Unit => True) (fun _ : Unit => [aI cy h n (fun _ => v)]) g (va_A [aI cy h n f] sz)) 0 0 (va_A [aI cy h n f] sz) := by
  refine mt_of (cc := cJ7_fill_53178) (maxL := 4) (ret := none) (by decide +kernel) (Nat.le_of_ble_eq_true rfl) ?_
  intro p9 e9 s m9 below meth c9 ls A hx hb hr hml hown hts hlk hin hsz hAe hA hP hD hK hX hl
  subst hsz
  rw [← hAe]
  clear hAe
  have hl : lv_has ls 4 [(0, .ref h), (1, .int v)] := hl
  have hS : va_S A s.heap s.heap [] := va_S.rf
  refine lv_iconst (v := (nI 0)) hx hb dJ7_fill_53178_0 (by decide) ?_
  refine lv_istore_n (lv' := [(2, .int (nI 0)), (0, .ref h), (1, .int v)]) hx hb dJ7_fill_53178_1 rfl hl (by decide) rfl (fun ls hl => ?_)
  refine lv_aload_n hx hb dJ7_fill_53178_2 rfl (lv_at hl 1 rfl) ?_
  refine va_alen (v := nI n) hx hb hK hP 0 0 rfl rfl rfl dJ7_fill_53178_3 ?_
  refine lv_istore_n (lv' := [(3, .int (nI n)), (2, .int (nI 0)), (0, .ref h), (1, .int v)]) hx hb dJ7_fill_53178_4 rfl hl (by decide) rfl (fun ls hl => ?_)
  rw [show f = (flF f v 0) from flF_0.symm] at hP hD
  refine lp_rule (σ := (Nat)) (fun x9 H9 locs9 ls9 => va_P g vwCl [aI cy h n (flF f v x9)] H9 ∧ va_D A [aI cy h n (flF f v x9)] ∧ va_S A s.heap H9 locs9 ∧ lv_has ls9 4 [(0, .ref h), (1, .int v), (2, .int (nI x9)), (3, .int (nI n))] ∧ (x9 ≤ n)) (fun x9 => n - x9) (0) ⟨hP, hD, hS, lv_sub hl [2, 3, 1, 0] rfl, (by omega)⟩ ?_
  rintro i H locs ls ⟨hP, hD, hS, hl, hi⟩ ih
  try dsimp only at hl hi hP hD ih
  refine lv_iload_n hx hb dJ7_fill_53178_5 rfl (lv_at hl 2 rfl) ?_
  refine lv_iload_n hx hb dJ7_fill_53178_6 rfl (lv_at hl 3 rfl) ?_
  refine lv_icmp_ge (tgt := 20) hx hb dJ7_fill_53178_7 (by decide) (fun c_7 => ?_) (fun c_7 => ?_)
  · have c_7 := (nc_le (by omega) (by omega) c_7)
    obtain ⟨hP, hD⟩ := arr_c (fun _ => v) hP hD 0 rfl (fun j hj => by simp [flF, show j < i by omega])
    have hP : va_P g vwCl [aI cy h n (fun _ => v)] H := hP
    have hD : va_D A [aI cy h n (fun _ => v)] := hD
    exact wr_v () rfl trivial hP hS hx hb hr dJ7_fill_53178_20 hlk
  · have c_7 := (nc_nle (by omega) (by omega) c_7)
    refine lv_aload_n hx hb dJ7_fill_53178_10 rfl (lv_at hl 0 rfl) ?_
    refine lv_iload_n hx hb dJ7_fill_53178_11 rfl (lv_at hl 2 rfl) ?_
    refine lv_iload_n hx hb dJ7_fill_53178_12 rfl (lv_at hl 1 rfl) ?_
    refine va_iast hx hb hK hP hD hS 0 0 rfl rfl (vp_in_nI (n := i) (by omega) (by omega)) dJ7_fill_53178_13 (fun H locs hP hD hS => ?_)
    rw [nI_clamp (n := i) (by omega)] at hP hD
    have hP : va_P g vwCl [aI cy h n (upd (flF f v i) i v)] H := hP
    have hD : va_D A [aI cy h n (upd (flF f v i) i v)] := hD
    rw [show (upd (flF f v i) i v) = (flF f v (i + 1)) from flF_s] at hP hD
    refine lv_iinc (v := (nI (i + 1))) (lv' := [(2, .int (nI (i + 1))), (0, .ref h), (1, .int v), (3, .int (nI n))]) hx hb dJ7_fill_53178_14 hl (k := 2) rfl (nI_add i 1) (by decide) rfl (fun ls hl => ?_)
    refine lv_goto (tgt := 5) hx hb dJ7_fill_53178_17 (by decide) ?_
    exact ih (i + 1) H locs ls ⟨hP, hD, hS, lv_sub hl [1, 2, 0, 3] rfl, (by omega)⟩ (by first | omega | (dsimp only; omega))
