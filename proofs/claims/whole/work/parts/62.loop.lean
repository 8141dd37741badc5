/-! THE LAW'S LOOP. -/
set_option maxHeartbeats 4000000 in
set_option maxRecDepth 100000 in
theorem lw_loop {pX : Program} {l : Launch} {eX : Env} {s : State} {mX : MethodId} {below : List Frame} {meth : Method} {cX : Code} {b L : Nat} {xs : Nat → Int32} {QX : State → Prop} {A : Nat → Prop} (hfl : l.stackTraces = false) (g : va_G) (cy : Nat → ClassId) (hx : pX.tables.exec = Jvm.exec) (hb : cX.code = cL_law) (hml : cX.maxLocals = 7) (hown : s.vm.findClass RL = some mX.cls) (hts : ∀ w ∈ wsL_law, w.before #[Value.ref b] s = true) (hA : ∀ q : Nat, s.heap.size ≤ q → A q) (hK : va_K g vwCl (Ty cy) s) (hX : Cx A s s.heap) (hY : Cy s) (hXs : va_X b L xs s s.heap) (hbl : b < s.heap.size) (hbA : ¬ A b) (hL : L ≤ 3072)
    {x a tr s0 s1 ma : Nat → Nat} {pa : Nat → Nat → Nat} {out : Nat} {q : Sc} {r : Mc} {σ : Nat → Nat} {Hh : Nat → Nat → Nat} {K : Nat → Nat → Nat} {fl : Nat → Bool} {tx : Nat → Nat} {f : Nat → Int64} {H : Heap} {locs : List Loc} {ls : Array Slot} (hI : fI 11880 q σ Hh 0 K fl tx 0) (hM : mI 11880 r σ Hh 0 K fl tx 0) (hP : va_P g vwCl (mQ cy ma r σ 0 fl tx 0 ++ ([aJ cy out 1 f] ++ fQ cy x a tr s0 s1 pa q σ 0 fl tx 0)) H) (hD : va_D A (mQ cy ma r σ 0 fl tx 0 ++ ([aJ cy out 1 f] ++ fQ cy x a tr s0 s1 pa q σ 0 fl tx 0))) (hS : va_S A s.heap H locs) (hl : lv_has ls 7 [(0, .ref b), (1, .ref (x 0)), (2, .ref (ma 0)), (3, .ref out), (4, .int (nI 0))])
    (fin : ∀ (k : Nat) (H : Heap) (locs : List Loc) (ls : Array Slot), k ≤ 512 → va_S A s.heap H locs → lv_has ls 7 [] → W pX l eX room_1 s mX #[Value.ref b] below meth cX H locs (198 + k) (12685 + 6 * k) QX (F0 mX 1697 ls [])) :
    W pX l eX room_1 s mX #[Value.ref b] below meth cX H locs 198 12685 QX (F0 mX 23 ls []) := by
  refine lp_ac (fc := fun x9 => 198 + x9.1) (fs := fun x9 => 12685 + 6 * x9.1) (σ := Nat × Sc × Mc × (Nat → Nat) × (Nat → Nat → Nat) × Nat × (Nat → Nat → Nat) × (Nat → Bool) × (Nat → Nat) × Nat × (Nat → Int64)) (fun x9 H9 locs9 ls9 => (6 * x9.1 ≤ L + 5 ∧ 6 * x9.1 ≤ 3072) ∧ fI (11880 + 99 * x9.1) x9.2.1 x9.2.2.2.1 x9.2.2.2.2.1 x9.2.2.2.2.2.1 x9.2.2.2.2.2.2.1 x9.2.2.2.2.2.2.2.1 x9.2.2.2.2.2.2.2.2.1 x9.2.2.2.2.2.2.2.2.2.1 ∧ mI (11880 + 99 * x9.1) x9.2.2.1 x9.2.2.2.1 x9.2.2.2.2.1 x9.2.2.2.2.2.1 x9.2.2.2.2.2.2.1 x9.2.2.2.2.2.2.2.1 x9.2.2.2.2.2.2.2.2.1 x9.2.2.2.2.2.2.2.2.2.1 ∧ va_P g vwCl (mQ cy ma x9.2.2.1 x9.2.2.2.1 x9.2.2.2.2.2.1 x9.2.2.2.2.2.2.2.1 x9.2.2.2.2.2.2.2.2.1 x9.2.2.2.2.2.2.2.2.2.1 ++ ([aJ cy out 1 x9.2.2.2.2.2.2.2.2.2.2] ++ fQ cy x a tr s0 s1 pa x9.2.1 x9.2.2.2.1 x9.2.2.2.2.2.1 x9.2.2.2.2.2.2.2.1 x9.2.2.2.2.2.2.2.2.1 x9.2.2.2.2.2.2.2.2.2.1)) H9 ∧ va_D A (mQ cy ma x9.2.2.1 x9.2.2.2.1 x9.2.2.2.2.2.1 x9.2.2.2.2.2.2.2.1 x9.2.2.2.2.2.2.2.2.1 x9.2.2.2.2.2.2.2.2.2.1 ++ ([aJ cy out 1 x9.2.2.2.2.2.2.2.2.2.2] ++ fQ cy x a tr s0 s1 pa x9.2.1 x9.2.2.2.1 x9.2.2.2.2.2.1 x9.2.2.2.2.2.2.2.1 x9.2.2.2.2.2.2.2.2.1 x9.2.2.2.2.2.2.2.2.2.1)) ∧ va_S A s.heap H9 locs9 ∧ lv_has ls9 7 [(0, .ref b), (1, .ref (x 0)), (2, .ref (ma 0)), (3, .ref out), (4, .int (nI (6 * x9.1)))]) (fun x9 => 600 - x9.1) (0, q, r, σ, Hh, 0, K, fl, tx, 0, f) ⟨⟨by show 6 * 0 ≤ L + 5; omega, by show 6 * 0 ≤ 3072; decide⟩, hI, hM, hP, hD, hS, hl⟩ ?_
  rintro ⟨k, q, r, σ, Hh, n, K, fl, tx, ln, f⟩ H locs ls ⟨⟨hk1, hk2⟩, hI, hM, hP, hD, hS, hl⟩ ih
  dsimp only at hk1 hk2 hI hM hP hD hl ⊢
  have nx : ∀ (q : Sc) (r : Mc) (σ : Nat → Nat) (Hh : Nat → Nat → Nat) (n : Nat) (K : Nat → Nat → Nat) (fl : Nat → Bool) (tx : Nat → Nat) (ln : Nat) (f : Nat → Int64) (H : Heap) (locs : List Loc) (ls : Array Slot), 6 * k + 6 ≤ L → fI (11880 + 99 * k + 99) q σ Hh n K fl tx ln → mI (11880 + 99 * k + 99) r σ Hh n K fl tx ln → va_P g vwCl (mQ cy ma r σ n fl tx ln ++ ([aJ cy out 1 f] ++ fQ cy x a tr s0 s1 pa q σ n fl tx ln)) H → va_D A (mQ cy ma r σ n fl tx ln ++ ([aJ cy out 1 f] ++ fQ cy x a tr s0 s1 pa q σ n fl tx ln)) → va_S A s.heap H locs → lv_has ls 7 [(0, .ref b), (1, .ref (x 0)), (2, .ref (ma 0)), (3, .ref out), (4, .int (nI (6 * k)))] → W pX l eX room_1 s mX #[Value.ref b] below meth cX H locs (198 + k + 1) (12685 + 6 * k + 6) QX (F0 mX 1691 ls []) := by
    intro q r σ Hh n K fl tx ln f H locs ls h6 hI hM hP hD hS hl
    refine lv_iinc (v := (nI (6 * (k + 1)))) (lv' := [(4, .int (nI (6 * (k + 1)))), (0, .ref b), (1, .ref (x 0)), (2, .ref (ma 0)), (3, .ref out)]) hx hb dL_law_1691 hl (k := 4) rfl (nI_add (6 * k) 6) (by decide) rfl (fun ls hl => ?_)
    refine lv_goto (tgt := 23) hx hb dL_law_1694 (by decide) ?_
    exact ih (k + 1, q, r, σ, Hh, n, K, fl, tx, ln, f) H locs ls ⟨⟨by show 6 * (k + 1) ≤ L + 5; omega, by show 6 * (k + 1) ≤ 3072; omega⟩, hI, hM, hP, hD, hS, lv_sub hl [1, 2, 3, 4, 0] rfl⟩ (by show 600 - (k + 1) < 600 - k; omega)
  refine lv_iload hx hb dL_law_23 (lv_at hl 4 rfl) ?_
  refine lv_aload_n hx hb dL_law_25 rfl (lv_at hl 0 rfl) ?_
  refine va_slen hx hb hXs hbl hbA hS dL_law_26 ?_
  refine lv_bipush (v := (nI 6)) hx hb dL_law_27 (by decide) ?_
  refine lv_isub hx hb dL_law_29 ?_
  have hsub : (Int32.ofNat L - nI 6).toInt = (L : Int) - 6 := pk_sub_toInt (a := L) (b := 6) (by omega) (by omega)
  refine lv_icmp_gt (tgt := 1697) hx hb dL_law_30 (by decide) (fun c_30 => ?_) (fun c_30 => ?_)
  · exact fin k H locs ls (by omega) hS (lv_sub hl [] rfl)
  · have h6 : 6 * k + 6 ≤ L := by
      have h9 := Int32.not_lt.mp c_30
      rw [Int32.le_iff_toInt_le, hsub, nI_toInt (by omega)] at h9
      omega
    refine lv_aload_n hx hb dL_law_33 rfl (lv_at hl 0 rfl) ?_
    refine lv_iload hx hb dL_law_34 (lv_at hl 4 rfl) ?_
    refine va_sld hx hb hXs hbl hbA hS (vp_in_nI (n := 6 * k) (by omega) (by omega)) dL_law_36 ?_
    refine lv_bipush (v := (nI 31)) hx hb dL_law_37 (by decide) ?_
    refine lv_iand hx hb dL_law_39 ?_
    generalize xs (nI (6 * k)).toNatClampNeg &&& nI 31 = w9
    rcases sw_tab 0 24 (by decide) w9 with h9 | ⟨j9, h9, c_40⟩
    · refine lv_tableOut (tgt := 1691) hx hb dL_law_40 (by omega) (by decide) ?_
      exact W.widen (by omega) (by omega) (nx q r σ Hh n K fl tx ln f H locs ls h6 (fI_mono hI (by omega) (by omega)) (mI_mono hM (by omega) (by omega)) hP hD hS hl)
    · rcases (show j9 = 0 ∨ j9 = 1 ∨ j9 = 2 ∨ j9 = 3 ∨ j9 = 4 ∨ j9 = 5 ∨ j9 = 6 ∨ j9 = 7 ∨ j9 = 8 ∨ j9 = 9 ∨ j9 = 10 ∨ j9 = 11 ∨ j9 = 12 ∨ j9 = 13 ∨ j9 = 14 ∨ j9 = 15 ∨ j9 = 16 ∨ j9 = 17 ∨ j9 = 18 ∨ j9 = 19 ∨ j9 = 20 ∨ j9 = 21 ∨ j9 = 22 ∨ j9 = 23 by omega) with rfl | rfl | rfl | rfl | rfl | rfl | rfl | rfl | rfl | rfl | rfl | rfl | rfl | rfl | rfl | rfl | rfl | rfl | rfl | rfl | rfl | rfl | rfl | rfl
      · have c_40 : w9 = nI 0 := c_40
        refine lv_tableIn (tgt := 152) (off := 112) hx hb dL_law_40 (by rw [c_40]; decide) (by rw [c_40]; decide) (by rw [c_40]; decide) (by decide) ?_
        exact lw_append hfl g cy hx hb hml hown hts hA hK hX hY hXs hbl hbA hL h6 (by omega) (by omega) (by omega) (by omega) hI hM hP hD hS hl (fun q r σ Hh n K fl tx ln f H locs ls => nx q r σ Hh n K fl tx ln f H locs ls h6)
      · have c_40 : w9 = nI 1 := c_40
        refine lv_tableIn (tgt := 208) (off := 168) hx hb dL_law_40 (by rw [c_40]; decide) (by rw [c_40]; decide) (by rw [c_40]; decide) (by decide) ?_
        exact lw_clearText hfl g cy hx hb hml hown hts hA hK hX hY hXs hbl hbA hL h6 (by omega) (by omega) (by omega) (by omega) hI hM hP hD hS hl (fun q r σ Hh n K fl tx ln f H locs ls => nx q r σ Hh n K fl tx ln f H locs ls h6)
      · have c_40 : w9 = nI 2 := c_40
        refine lv_tableIn (tgt := 221) (off := 181) hx hb dL_law_40 (by rw [c_40]; decide) (by rw [c_40]; decide) (by rw [c_40]; decide) (by decide) ?_
        exact lw_errorPosition hfl g cy hx hb hml hown hts hA hK hX hY hXs hbl hbA hL h6 (by omega) (by omega) (by omega) (by omega) hI hM hP hD hS hl (fun q r σ Hh n K fl tx ln f H locs ls => nx q r σ Hh n K fl tx ln f H locs ls h6)
      · have c_40 : w9 = nI 3 := c_40
        refine lv_tableIn (tgt := 234) (off := 194) hx hb dL_law_40 (by rw [c_40]; decide) (by rw [c_40]; decide) (by rw [c_40]; decide) (by decide) ?_
        exact lw_load hfl g cy hx hb hml hown hts hA hK hX hY hXs hbl hbA hL h6 (by omega) (by omega) (by omega) (by omega) hI hM hP hD hS hl (fun q r σ Hh n K fl tx ln f H locs ls => nx q r σ Hh n K fl tx ln f H locs ls h6)
      · have c_40 : w9 = nI 4 := c_40
        refine lv_tableIn (tgt := 278) (off := 238) hx hb dL_law_40 (by rw [c_40]; decide) (by rw [c_40]; decide) (by rw [c_40]; decide) (by decide) ?_
        exact lw_about hfl g cy hx hb hml hown hts hA hK hX hY hXs hbl hbA hL h6 (by omega) (by omega) (by omega) (by omega) hI hM hP hD hS hl (fun q r σ Hh n K fl tx ln f H locs ls => nx q r σ Hh n K fl tx ln f H locs ls h6)
      · have c_40 : w9 = nI 5 := c_40
        refine lv_tableIn (tgt := 334) (off := 294) hx hb dL_law_40 (by rw [c_40]; decide) (by rw [c_40]; decide) (by rw [c_40]; decide) (by decide) ?_
        exact lw_dogOf hfl g cy hx hb hml hown hts hA hK hX hY hXs hbl hbA hL h6 (by omega) (by omega) (by omega) (by omega) hI hM hP hD hS hl (fun q r σ Hh n K fl tx ln f H locs ls => nx q r σ Hh n K fl tx ln f H locs ls h6)
      · have c_40 : w9 = nI 6 := c_40
        refine lv_tableIn (tgt := 402) (off := 362) hx hb dL_law_40 (by rw [c_40]; decide) (by rw [c_40]; decide) (by rw [c_40]; decide) (by decide) ?_
        exact lw_sightingOf hfl g cy hx hb hml hown hts hA hK hX hY hXs hbl hbA hL h6 (by omega) (by omega) (by omega) (by omega) hI hM hP hD hS hl (fun q r σ Hh n K fl tx ln f H locs ls => nx q r σ Hh n K fl tx ln f H locs ls h6)
      · have c_40 : w9 = nI 7 := c_40
        refine lv_tableIn (tgt := 470) (off := 430) hx hb dL_law_40 (by rw [c_40]; decide) (by rw [c_40]; decide) (by rw [c_40]; decide) (by decide) ?_
        exact lw_purse hfl g cy hx hb hml hown hts hA hK hX hY hXs hbl hbA hL h6 (by omega) (by omega) (by omega) (by omega) hI hM hP hD hS hl (fun q r σ Hh n K fl tx ln f H locs ls => nx q r σ Hh n K fl tx ln f H locs ls h6)
      · have c_40 : w9 = nI 8 := c_40
        refine lv_tableIn (tgt := 526) (off := 486) hx hb dL_law_40 (by rw [c_40]; decide) (by rw [c_40]; decide) (by rw [c_40]; decide) (by decide) ?_
        exact lw_apart hfl g cy hx hb hml hown hts hA hK hX hY hXs hbl hbA hL h6 (by omega) (by omega) (by omega) (by omega) hI hM hP hD hS hl (fun q r σ Hh n K fl tx ln f H locs ls => nx q r σ Hh n K fl tx ln f H locs ls h6)
      · have c_40 : w9 = nI 9 := c_40
        refine lv_tableIn (tgt := 606) (off := 566) hx hb dL_law_40 (by rw [c_40]; decide) (by rw [c_40]; decide) (by rw [c_40]; decide) (by decide) ?_
        exact lw_lose hfl g cy hx hb hml hown hts hA hK hX hY hXs hbl hbA hL h6 (by omega) (by omega) (by omega) (by omega) hI hM hP hD hS hl (fun q r σ Hh n K fl tx ln f H locs ls => nx q r σ Hh n K fl tx ln f H locs ls h6)
      · have c_40 : w9 = nI 10 := c_40
        refine lv_tableIn (tgt := 698) (off := 658) hx hb dL_law_40 (by rw [c_40]; decide) (by rw [c_40]; decide) (by rw [c_40]; decide) (by decide) ?_
        exact lw_sight hfl g cy hx hb hml hown hts hA hK hX hY hXs hbl hbA hL h6 (by omega) (by omega) (by omega) (by omega) hI hM hP hD hS hl (fun q r σ Hh n K fl tx ln f H locs ls => nx q r σ Hh n K fl tx ln f H locs ls h6)
      · have c_40 : w9 = nI 11 := c_40
        refine lv_tableIn (tgt := 818) (off := 778) hx hb dL_law_40 (by rw [c_40]; decide) (by rw [c_40]; decide) (by rw [c_40]; decide) (by decide) ?_
        exact lw_find hfl g cy hx hb hml hown hts hA hK hX hY hXs hbl hbA hL h6 (by omega) (by omega) (by omega) (by omega) hI hM hP hD hS hl (fun q r σ Hh n K fl tx ln f H locs ls => nx q r σ Hh n K fl tx ln f H locs ls h6)
      · have c_40 : w9 = nI 12 := c_40
        refine lv_tableIn (tgt := 898) (off := 858) hx hb dL_law_40 (by rw [c_40]; decide) (by rw [c_40]; decide) (by rw [c_40]; decide) (by decide) ?_
        exact lw_close hfl g cy hx hb hml hown hts hA hK hX hY hXs hbl hbA hL h6 (by omega) (by omega) (by omega) (by omega) hI hM hP hD hS hl (fun q r σ Hh n K fl tx ln f H locs ls => nx q r σ Hh n K fl tx ln f H locs ls h6)
      · have c_40 : w9 = nI 13 := c_40
        refine lv_tableIn (tgt := 994) (off := 954) hx hb dL_law_40 (by rw [c_40]; decide) (by rw [c_40]; decide) (by rw [c_40]; decide) (by decide) ?_
        exact lw_hours hfl g cy hx hb hml hown hts hA hK hX hY hXs hbl hbA hL h6 (by omega) (by omega) (by omega) (by omega) hI hM hP hD hS hl (fun q r σ Hh n K fl tx ln f H locs ls => nx q r σ Hh n K fl tx ln f H locs ls h6)
      · have c_40 : w9 = nI 14 := c_40
        refine lv_tableIn (tgt := 1050) (off := 1010) hx hb dL_law_40 (by rw [c_40]; decide) (by rw [c_40]; decide) (by rw [c_40]; decide) (by decide) ?_
        exact lw_set hfl g cy hx hb hml hown hts hA hK hX hY hXs hbl hbA hL h6 (by omega) (by omega) (by omega) (by omega) hI hM hP hD hS hl (fun q r σ Hh n K fl tx ln f H locs ls => nx q r σ Hh n K fl tx ln f H locs ls h6)
      · have c_40 : w9 = nI 15 := c_40
        refine lv_tableIn (tgt := 1118) (off := 1078) hx hb dL_law_40 (by rw [c_40]; decide) (by rw [c_40]; decide) (by rw [c_40]; decide) (by decide) ?_
        exact lw_undo hfl g cy hx hb hml hown hts hA hK hX hY hXs hbl hbA hL h6 (by omega) (by omega) (by omega) (by omega) hI hM hP hD hS hl (fun q r σ Hh n K fl tx ln f H locs ls => nx q r σ Hh n K fl tx ln f H locs ls h6)
      · have c_40 : w9 = nI 16 := c_40
        refine lv_tableIn (tgt := 1162) (off := 1122) hx hb dL_law_40 (by rw [c_40]; decide) (by rw [c_40]; decide) (by rw [c_40]; decide) (by decide) ?_
        exact lw_canBe hfl g cy hx hb hml hown hts hA hK hX hY hXs hbl hbA hL h6 (by omega) (by omega) (by omega) (by omega) hI hM hP hD hS hl (fun q r σ Hh n K fl tx ln f H locs ls => nx q r σ Hh n K fl tx ln f H locs ls h6)
      · have c_40 : w9 = nI 17 := c_40
        refine lv_tableIn (tgt := 1218) (off := 1178) hx hb dL_law_40 (by rw [c_40]; decide) (by rw [c_40]; decide) (by rw [c_40]; decide) (by decide) ?_
        exact lw_watch hfl g cy hx hb hml hown hts hA hK hX hY hXs hbl hbA hL h6 (by omega) (by omega) (by omega) (by omega) hI hM hP hD hS hl (fun q r σ Hh n K fl tx ln f H locs ls => nx q r σ Hh n K fl tx ln f H locs ls h6)
      · have c_40 : w9 = nI 18 := c_40
        refine lv_tableIn (tgt := 1231) (off := 1191) hx hb dL_law_40 (by rw [c_40]; decide) (by rw [c_40]; decide) (by rw [c_40]; decide) (by decide) ?_
        exact lw_meant hfl g cy hx hb hml hown hts hA hK hX hY hXs hbl hbA hL h6 (by omega) (by omega) (by omega) (by omega) hI hM hP hD hS hl (fun q r σ Hh n K fl tx ln f H locs ls => nx q r σ Hh n K fl tx ln f H locs ls h6)
      · have c_40 : w9 = nI 19 := c_40
        refine lv_tableIn (tgt := 1287) (off := 1247) hx hb dL_law_40 (by rw [c_40]; decide) (by rw [c_40]; decide) (by rw [c_40]; decide) (by decide) ?_
        exact lw_ifFound hfl g cy hx hb hml hown hts hA hK hX hY hXs hbl hbA hL h6 (by omega) (by omega) (by omega) (by omega) hI hM hP hD hS hl (fun q r σ Hh n K fl tx ln f H locs ls => nx q r σ Hh n K fl tx ln f H locs ls h6)
      · have c_40 : w9 = nI 20 := c_40
        refine lv_tableIn (tgt := 1379) (off := 1339) hx hb dL_law_40 (by rw [c_40]; decide) (by rw [c_40]; decide) (by rw [c_40]; decide) (by decide) ?_
        exact lw_runScript hfl g cy hx hb hml hown hts hA hK hX hY hXs hbl hbA hL h6 (by omega) (by omega) (by omega) (by omega) hI hM hP hD hS hl (fun q r σ Hh n K fl tx ln f H locs ls => nx q r σ Hh n K fl tx ln f H locs ls h6)
      · have c_40 : w9 = nI 21 := c_40
        refine lv_tableIn (tgt := 1479) (off := 1439) hx hb dL_law_40 (by rw [c_40]; decide) (by rw [c_40]; decide) (by rw [c_40]; decide) (by decide) ?_
        exact lw_simulate hfl g cy hx hb hml hown hts hA hK hX hY hXs hbl hbA hL h6 (by omega) (by omega) (by omega) (by omega) hI hM hP hD hS hl (fun q r σ Hh n K fl tx ln f H locs ls => nx q r σ Hh n K fl tx ln f H locs ls h6)
      · have c_40 : w9 = nI 22 := c_40
        refine lv_tableIn (tgt := 1579) (off := 1539) hx hb dL_law_40 (by rw [c_40]; decide) (by rw [c_40]; decide) (by rw [c_40]; decide) (by decide) ?_
        exact lw_save hfl g cy hx hb hml hown hts hA hK hX hY hXs hbl hbA hL h6 (by omega) (by omega) (by omega) (by omega) hI hM hP hD hS hl (fun q r σ Hh n K fl tx ln f H locs ls => nx q r σ Hh n K fl tx ln f H locs ls h6)
      · have c_40 : w9 = nI 23 := c_40
        refine lv_tableIn (tgt := 1635) (off := 1595) hx hb dL_law_40 (by rw [c_40]; decide) (by rw [c_40]; decide) (by rw [c_40]; decide) (by decide) ?_
        exact lw_restore hfl g cy hx hb hml hown hts hA hK hX hY hXs hbl hbA hL h6 (by omega) (by omega) (by omega) (by omega) hI hM hP hD hS hl (fun q r σ Hh n K fl tx ln f H locs ls => nx q r σ Hh n K fl tx ln f H locs ls h6)
