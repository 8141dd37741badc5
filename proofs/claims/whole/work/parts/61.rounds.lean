/-! THE LAW'S ROUNDS: each call on both sides. -/
theorem hl_in {idx n : Nat} {y : MethodName} {bytes : ByteArray} {r : Option FieldType} {hh : List (Nat × Nat × Nat × Nat)} (h1 : Cond.codeWith y bytes n r hh ∈ wsL_law) (h2 : Cond.initialized y.cls ∈ wsL_law) (h3 : Cond.methodLink RL idx y ∈ wsL_law) (h4 : Cond.static y ∈ wsL_law) : GoodIn wsL_law (va_wsS RL idx y (Cond.codeWith y bytes n r hh :: wsL_law)) := by
  intro w hw
  unfold va_wsS at hw
  rcases List.mem_append.mp hw with h | h
  · simp only [List.mem_cons, List.not_mem_nil, or_false] at h
    rcases h with rfl | rfl | rfl
    · exact bg_in _ h3
    · exact bg_in _ h4
    · exact bg_in _ h2
  · rcases List.mem_cons.mp h with rfl | h
    · exact bg_in _ h1
    · exact bg_in _ h
set_option maxHeartbeats 4000000 in
set_option maxRecDepth 100000 in
theorem lw_append {pX : Program} {l : Launch} {eX : Env} {s : State} {mX : MethodId} {below : List Frame} {meth : Method} {cX : Code} {b L : Nat} {xs : Nat → Int32} {QX : State → Prop} {A : Nat → Prop} (hfl : l.stackTraces = false) (g : va_G) (cy : Nat → ClassId) (hx : pX.tables.exec = Jvm.exec) (hb : cX.code = cL_law) (hml : cX.maxLocals = 7) (hown : s.vm.findClass RL = some mX.cls) (hts : ∀ w ∈ wsL_law, w.before #[Value.ref b] s = true) (hA : ∀ q : Nat, s.heap.size ≤ q → A q) (hK : va_K g vwCl (Ty cy) s) (hX : Cx A s s.heap) (hY : Cy s) (hXs : va_X b L xs s s.heap) (hbl : b < s.heap.size) (hbA : ¬ A b) (hL : L ≤ 3072)
    {x a tr s0 s1 ma : Nat → Nat} {pa : Nat → Nat → Nat} {out i bd cells slots : Nat} {q : Sc} {r : Mc} {σ : Nat → Nat} {Hh : Nat → Nat → Nat} {n : Nat} {K : Nat → Nat → Nat} {fl : Nat → Bool} {tx : Nat → Nat} {ln : Nat} {f : Nat → Int64} {H : Heap} {locs : List Loc} {ls : Array Slot} (hi : i + 6 ≤ L) (hbd1 : 11880 ≤ bd) (hbd2 : bd ≤ 63000) (hc9 : cells ≤ 10000) (hs9 : slots ≤ 100000) (hI : fI bd q σ Hh n K fl tx ln) (hM : mI bd r σ Hh n K fl tx ln) (hP : va_P g vwCl (mQ cy ma r σ n fl tx ln ++ ([aJ cy out 1 f] ++ fQ cy x a tr s0 s1 pa q σ n fl tx ln)) H) (hD : va_D A (mQ cy ma r σ n fl tx ln ++ ([aJ cy out 1 f] ++ fQ cy x a tr s0 s1 pa q σ n fl tx ln))) (hS : va_S A s.heap H locs) (hl : lv_has ls 7 [(0, .ref b), (1, .ref (x 0)), (2, .ref (ma 0)), (3, .ref out), (4, .int (nI i))])
    (kk : ∀ (q : Sc) (r : Mc) (σ : Nat → Nat) (Hh : Nat → Nat → Nat) (n : Nat) (K : Nat → Nat → Nat) (fl : Nat → Bool) (tx : Nat → Nat) (ln : Nat) (f : Nat → Int64) (H : Heap) (locs : List Loc) (ls : Array Slot), fI (bd + 99) q σ Hh n K fl tx ln → mI (bd + 99) r σ Hh n K fl tx ln → va_P g vwCl (mQ cy ma r σ n fl tx ln ++ ([aJ cy out 1 f] ++ fQ cy x a tr s0 s1 pa q σ n fl tx ln)) H → va_D A (mQ cy ma r σ n fl tx ln ++ ([aJ cy out 1 f] ++ fQ cy x a tr s0 s1 pa q σ n fl tx ln)) → va_S A s.heap H locs → lv_has ls 7 [(0, .ref b), (1, .ref (x 0)), (2, .ref (ma 0)), (3, .ref out), (4, .int (nI i))] → W pX l eX room_1 s mX #[Value.ref b] below meth cX H locs (cells + 1) (slots + 6) QX (F0 mX 1691 ls [])) :
    W pX l eX room_1 s mX #[Value.ref b] below meth cX H locs cells slots QX (F0 mX 152 ls []) := by
  have hl : lv_has ls 7 [(0, .ref b), (1, .ref (x 0)), (2, .ref (ma 0)), (3, .ref out), (4, .int (nI i))] := hl
  refine lv_aload_n hx hb dL_law_152 rfl (lv_at hl 1 rfl) ?_
  refine lv_aload_n hx hb dL_law_153 rfl (lv_at hl 0 rfl) ?_
  refine lv_iload hx hb dL_law_154 (lv_at hl 4 rfl) ?_
  refine lv_iconst (v := (nI 1)) hx hb dL_law_156 (by decide) ?_
  refine lv_iadd hx hb dL_law_157 ?_
  refine ti (nI_add i 1) ?_
  refine va_sld hx hb hXs hbl hbA hS (vp_in_nI (n := (i + 1)) (by omega) (by omega)) dL_law_158 ?_
  refine ti (show xs (nI (i + 1)).toNatClampNeg = xs (i + 1) from by rw [nI_clamp (by omega)]) ?_
  refine lv_aload_n hx hb dL_law_159 rfl (lv_at hl 3 rfl) ?_
  refine wr_callS (pre := mQ cy ma r σ n fl tx ln) (wc := ([aJ cy out 1 f] ++ fQ cy x a tr s0 s1 pa q σ n fl tx ln)) (vx_runSW (hh := [(0, 9, 12, 13), (0, 9, 15, 15)]) (As := [.ref (x 0), .int (xs (i + 1)), .ref out]) (rest := []) ⟨hx, hb, hml, hown, hts⟩ (c_L_append l hfl g cy out f x a tr s0 s1 pa H.size bd q σ Hh n K fl tx ln (xs (i + 1)) hI ) (vx_cwSW 3 hts (hl_in wd6_10 wd6_9 wd6_7 wd6_8) rfl rfl rfl (by decide +kernel) ⟨Nat.le_of_ble_eq_true rfl, Nat.le_of_ble_eq_true rfl⟩) (ps2 hK hP hD hS hA hX hY _ nd_suffix at_suffix) rfl rfl hl.1 rfl (lv_room (Nat.le_of_ble_eq_true rfl)) dL_law_160 ⟨by show _ ≤ 601024; omega, by show _ ≤ 7293033; omega⟩) hP hD hS hA (fun _ => congrArg (fun z => out :: z) fQ_ad) (fun u H locs hu hP hD hS => ?_)
  have hP : va_P g vwCl (mQ cy ma r σ n fl tx ln ++ ([aJ cy out 1 u.1] ++ fQ cy x a tr s0 s1 pa u.2 σ n fl (if fApp (xs (i + 1)) ln = 0 then up tx ln (xs (i + 1)).toNatClampNeg else tx) (if fApp (xs (i + 1)) ln = 0 then ln + 1 else ln))) H := hP
  have hD : va_D A (mQ cy ma r σ n fl tx ln ++ ([aJ cy out 1 u.1] ++ fQ cy x a tr s0 s1 pa u.2 σ n fl (if fApp (xs (i + 1)) ln = 0 then up tx ln (xs (i + 1)).toNatClampNeg else tx) (if fApp (xs (i + 1)) ln = 0 then ln + 1 else ln))) := hD
  have hrk9 : rkm 0 1 2 (fApp (xs (i + 1)) ln) < 10 := by unfold rkm; (repeat' split) <;> omega
  show W _ _ _ _ _ _ _ _ _ _ _ _ _ _ _ (F0 mX 163 ls [.int (nI (rkm 0 1 2 (fApp (xs (i + 1)) ln)))])
  refine lv_istore (lv' := [(5, .int (nI (rkm 0 1 2 (fApp (xs (i + 1)) ln)))), (0, .ref b), (1, .ref (x 0)), (2, .ref (ma 0)), (3, .ref out), (4, .int (nI i))]) hx hb dL_law_163 hl (by decide) rfl (fun ls hl => ?_)
  refine lv_aload_n hx hb dL_law_165 rfl (lv_at hl 3 rfl) ?_
  refine lv_aload_n hx hb dL_law_166 rfl (lv_at hl 1 rfl) ?_
  refine lv_iload hx hb dL_law_167 (lv_at hl 5 rfl) ?_
  refine lv_iconst (v := (nI 1)) hx hb dL_law_169 (by decide) ?_
  refine lv_iadd hx hb dL_law_170 ?_
  refine ti (nI_add i 1) ?_
  refine va_sld hx hb hXs hbl hbA hS (vp_in_nI (n := (i + 1)) (by omega) (by omega)) dL_law_171 ?_
  refine ti (show xs (nI (i + 1)).toNatClampNeg = xs (i + 1) from by rw [nI_clamp (by omega)]) ?_
  obtain ⟨hP, hD⟩ := sw_PD (L := []) (M := mQ cy ma r σ n fl tx ln) (T := ([aJ cy out 1 u.1] ++ fQ cy x a tr s0 s1 pa u.2 σ n fl (if fApp (xs (i + 1)) ln = 0 then up tx ln (xs (i + 1)).toNatClampNeg else tx) (if fApp (xs (i + 1)) ln = 0 then ln + 1 else ln))) hP hD
  have hP : va_P g vwCl (([aJ cy out 1 u.1] ++ fQ cy x a tr s0 s1 pa u.2 σ n fl (if fApp (xs (i + 1)) ln = 0 then up tx ln (xs (i + 1)).toNatClampNeg else tx) (if fApp (xs (i + 1)) ln = 0 then ln + 1 else ln)) ++ mQ cy ma r σ n fl tx ln) H := hP
  have hD : va_D A (([aJ cy out 1 u.1] ++ fQ cy x a tr s0 s1 pa u.2 σ n fl (if fApp (xs (i + 1)) ln = 0 then up tx ln (xs (i + 1)).toNatClampNeg else tx) (if fApp (xs (i + 1)) ln = 0 then ln + 1 else ln)) ++ mQ cy ma r σ n fl tx ln) := hD
  refine wr_callS (pre := ([aJ cy out 1 u.1] ++ fQ cy x a tr s0 s1 pa u.2 σ n fl (if fApp (xs (i + 1)) ln = 0 then up tx ln (xs (i + 1)).toNatClampNeg else tx) (if fApp (xs (i + 1)) ln = 0 then ln + 1 else ln))) (wc := mQ cy ma r σ n fl tx ln) (va_runV (As := [.int (xs (i + 1))]) (rest := []) ⟨hx, hb, hml, hown, hts⟩ (c_X8_append l g cy ma H.size bd r σ Hh n K fl tx ln (xs (i + 1)) hM ) ⟨cB 1 hts wd7_12 wd1_5 wd7_9 rfl rfl (by decide +kernel) ⟨Nat.le_of_ble_eq_true rfl, Nat.le_of_ble_eq_true rfl⟩, hts _ wd7_10, hts _ wd7_11⟩ (pvS hK hP hD hS hA hX 6 rfl rfl) rfl rfl hl.1 rfl (lv_room (Nat.le_of_ble_eq_true rfl)) dL_law_172 ⟨by show _ ≤ 601024; omega, by show _ ≤ 7293033; omega⟩) hP hD hS hA (fun _ => mQ_ad) (fun r9 H locs hr9 hP hD hS => ?_)
  have hP : va_P g vwCl (([aJ cy out 1 u.1] ++ fQ cy x a tr s0 s1 pa u.2 σ n fl (if fApp (xs (i + 1)) ln = 0 then up tx ln (xs (i + 1)).toNatClampNeg else tx) (if fApp (xs (i + 1)) ln = 0 then ln + 1 else ln)) ++ (mQ cy ma r9 σ n fl (if fApp (xs (i + 1)) ln = 0 then up tx ln (xs (i + 1)).toNatClampNeg else tx) (if fApp (xs (i + 1)) ln = 0 then ln + 1 else ln))) H := hP
  have hD : va_D A (([aJ cy out 1 u.1] ++ fQ cy x a tr s0 s1 pa u.2 σ n fl (if fApp (xs (i + 1)) ln = 0 then up tx ln (xs (i + 1)).toNatClampNeg else tx) (if fApp (xs (i + 1)) ln = 0 then ln + 1 else ln)) ++ (mQ cy ma r9 σ n fl (if fApp (xs (i + 1)) ln = 0 then up tx ln (xs (i + 1)).toNatClampNeg else tx) (if fApp (xs (i + 1)) ln = 0 then ln + 1 else ln))) := hD
  obtain ⟨hP, hD⟩ := sw_PD (L := []) (M := ([aJ cy out 1 u.1] ++ fQ cy x a tr s0 s1 pa u.2 σ n fl (if fApp (xs (i + 1)) ln = 0 then up tx ln (xs (i + 1)).toNatClampNeg else tx) (if fApp (xs (i + 1)) ln = 0 then ln + 1 else ln))) (T := (mQ cy ma r9 σ n fl (if fApp (xs (i + 1)) ln = 0 then up tx ln (xs (i + 1)).toNatClampNeg else tx) (if fApp (xs (i + 1)) ln = 0 then ln + 1 else ln))) hP hD
  have hP : va_P g vwCl ((mQ cy ma r9 σ n fl (if fApp (xs (i + 1)) ln = 0 then up tx ln (xs (i + 1)).toNatClampNeg else tx) (if fApp (xs (i + 1)) ln = 0 then ln + 1 else ln)) ++ ([aJ cy out 1 u.1] ++ fQ cy x a tr s0 s1 pa u.2 σ n fl (if fApp (xs (i + 1)) ln = 0 then up tx ln (xs (i + 1)).toNatClampNeg else tx) (if fApp (xs (i + 1)) ln = 0 then ln + 1 else ln))) H := hP
  have hD : va_D A ((mQ cy ma r9 σ n fl (if fApp (xs (i + 1)) ln = 0 then up tx ln (xs (i + 1)).toNatClampNeg else tx) (if fApp (xs (i + 1)) ln = 0 then ln + 1 else ln)) ++ ([aJ cy out 1 u.1] ++ fQ cy x a tr s0 s1 pa u.2 σ n fl (if fApp (xs (i + 1)) ln = 0 then up tx ln (xs (i + 1)).toNatClampNeg else tx) (if fApp (xs (i + 1)) ln = 0 then ln + 1 else ln))) := hD
  show W _ _ _ _ _ _ _ _ _ _ _ _ _ _ _ (F0 mX 175 ls [.int (nI (if fApp (xs (i + 1)) ln = 0 then ln + 1 else 0))])
  refine lv_istore (lv' := [(6, .int (nI (if fApp (xs (i + 1)) ln = 0 then ln + 1 else 0))), (5, .int (nI (rkm 0 1 2 (fApp (xs (i + 1)) ln)))), (0, .ref b), (1, .ref (x 0)), (2, .ref (ma 0)), (3, .ref out), (4, .int (nI i))]) hx hb dL_law_175 hl (by decide) rfl (fun ls hl => ?_)
  refine lv_aload_n hx hb dL_law_177 rfl (lv_at hl 4 rfl) ?_
  obtain ⟨hP, hD⟩ := sw_PD (L := []) (M := (mQ cy ma r9 σ n fl (if fApp (xs (i + 1)) ln = 0 then up tx ln (xs (i + 1)).toNatClampNeg else tx) (if fApp (xs (i + 1)) ln = 0 then ln + 1 else ln))) (T := ([aJ cy out 1 u.1] ++ fQ cy x a tr s0 s1 pa u.2 σ n fl (if fApp (xs (i + 1)) ln = 0 then up tx ln (xs (i + 1)).toNatClampNeg else tx) (if fApp (xs (i + 1)) ln = 0 then ln + 1 else ln))) hP hD
  have hP : va_P g vwCl (([aJ cy out 1 u.1] ++ fQ cy x a tr s0 s1 pa u.2 σ n fl (if fApp (xs (i + 1)) ln = 0 then up tx ln (xs (i + 1)).toNatClampNeg else tx) (if fApp (xs (i + 1)) ln = 0 then ln + 1 else ln)) ++ (mQ cy ma r9 σ n fl (if fApp (xs (i + 1)) ln = 0 then up tx ln (xs (i + 1)).toNatClampNeg else tx) (if fApp (xs (i + 1)) ln = 0 then ln + 1 else ln))) H := hP
  have hD : va_D A (([aJ cy out 1 u.1] ++ fQ cy x a tr s0 s1 pa u.2 σ n fl (if fApp (xs (i + 1)) ln = 0 then up tx ln (xs (i + 1)).toNatClampNeg else tx) (if fApp (xs (i + 1)) ln = 0 then ln + 1 else ln)) ++ (mQ cy ma r9 σ n fl (if fApp (xs (i + 1)) ln = 0 then up tx ln (xs (i + 1)).toNatClampNeg else tx) (if fApp (xs (i + 1)) ln = 0 then ln + 1 else ln))) := hD
  refine rd_call (va_runV (As := []) (rest := []) ⟨hx, hb, hml, hown, hts⟩ (c_X8_thrown l g cy H.size ma r9.1 r9.2.1 r9.2.2.1 r9.2.2.2.1 r9.2.2.2.2.1 r9.2.2.2.2.2.1 r9.2.2.2.2.2.2.1 r9.2.2.2.2.2.2.2 σ n fl (if fApp (xs (i + 1)) ln = 0 then up tx ln (xs (i + 1)).toNatClampNeg else tx) (if fApp (xs (i + 1)) ln = 0 then ln + 1 else ln)) ⟨cB 0 hts wd8_2 wd1_5 wd7_23 rfl rfl (by decide +kernel) ⟨Nat.le_of_ble_eq_true rfl, Nat.le_of_ble_eq_true rfl⟩, hts _ wd8_0, hts _ wd8_1⟩ (pvS (wc := (mQ cy ma r9 σ n fl (if fApp (xs (i + 1)) ln = 0 then up tx ln (xs (i + 1)).toNatClampNeg else tx) (if fApp (xs (i + 1)) ln = 0 then ln + 1 else ln))) hK hP hD hS hA hX 6 rfl rfl) rfl rfl hl.1 rfl (lv_room (Nat.le_of_ble_eq_true rfl)) dL_law_178 ⟨by show _ ≤ 601024; omega, by show _ ≤ 7293033; omega⟩) ?_
  obtain ⟨hP, hD⟩ := sw_PD (L := []) (M := ([aJ cy out 1 u.1] ++ fQ cy x a tr s0 s1 pa u.2 σ n fl (if fApp (xs (i + 1)) ln = 0 then up tx ln (xs (i + 1)).toNatClampNeg else tx) (if fApp (xs (i + 1)) ln = 0 then ln + 1 else ln))) (T := (mQ cy ma r9 σ n fl (if fApp (xs (i + 1)) ln = 0 then up tx ln (xs (i + 1)).toNatClampNeg else tx) (if fApp (xs (i + 1)) ln = 0 then ln + 1 else ln))) hP hD
  have hP : va_P g vwCl ((mQ cy ma r9 σ n fl (if fApp (xs (i + 1)) ln = 0 then up tx ln (xs (i + 1)).toNatClampNeg else tx) (if fApp (xs (i + 1)) ln = 0 then ln + 1 else ln)) ++ ([aJ cy out 1 u.1] ++ fQ cy x a tr s0 s1 pa u.2 σ n fl (if fApp (xs (i + 1)) ln = 0 then up tx ln (xs (i + 1)).toNatClampNeg else tx) (if fApp (xs (i + 1)) ln = 0 then ln + 1 else ln))) H := hP
  have hD : va_D A ((mQ cy ma r9 σ n fl (if fApp (xs (i + 1)) ln = 0 then up tx ln (xs (i + 1)).toNatClampNeg else tx) (if fApp (xs (i + 1)) ln = 0 then ln + 1 else ln)) ++ ([aJ cy out 1 u.1] ++ fQ cy x a tr s0 s1 pa u.2 σ n fl (if fApp (xs (i + 1)) ln = 0 then up tx ln (xs (i + 1)).toNatClampNeg else tx) (if fApp (xs (i + 1)) ln = 0 then ln + 1 else ln))) := hD
  refine ti (show nI r9.2.2.2.2.2.2.2 = nI (rkm 0 1 2 (fApp (xs (i + 1)) ln)) from congrArg nI hr9.1) ?_
  show W _ _ _ _ _ _ _ _ _ _ _ _ _ _ _ (F0 mX 181 ls [.int (nI (rkm 0 1 2 (fApp (xs (i + 1)) ln)))])
  refine lv_iload hx hb dL_law_181 (lv_at hl 1 rfl) ?_
  refine lv_icmp_eq (tgt := 188) hx hb dL_law_183 (by decide) (fun c_183 => ?_) (fun c_183 => ?_)
  · have c_183 := (nc_eq9 (by omega) (by omega) c_183)
    refine lv_iload hx hb dL_law_188 (lv_at hl 1 rfl) ?_
    refine lv_if_ne (tgt := 205) hx hb dL_law_190 (by decide) (fun c_190 => ?_) (fun c_190 => ?_)
    · have c_190 := (nz_ne c_190 (by omega))
      refine lv_goto (tgt := 1691) hx hb dL_law_205 (by decide) ?_
      exact kk u.2 (r9) σ Hh n K fl (if fApp (xs (i + 1)) ln = 0 then up tx ln (xs (i + 1)).toNatClampNeg else tx) (if fApp (xs (i + 1)) ln = 0 then ln + 1 else ln) u.1 H locs ls (fI_mono hu.2 (by (try split) <;> omega) (by omega)) (mI_mono hr9.2 (by (try split) <;> omega) (by omega)) hP hD hS (lv_sub hl [2, 3, 4, 5, 6] rfl)
    · have c_190 := (nz_eq c_190 (by omega))
      have c_190 : rkm 0 1 2 (fApp (xs (i + 1)) ln) = 0 := c_190
      have hz9 : fApp (xs (i + 1)) ln = 0 := rkm_z (by unfold fApp rkm; (repeat' split) <;> omega) c_190
      refine lv_aload_n hx hb dL_law_193 rfl (lv_at hl 5 rfl) ?_
      refine lv_iconst (v := (nI 0)) hx hb dL_law_194 (by decide) ?_
      refine va_lald hx hb hK hP 9 3 rfl rfl (vp_in_nI (n := 0) (by omega) (by omega)) dL_law_195 ?_
      refine tl (show u.1 (nI 0).toNatClampNeg = ((nI (ln + 1)) : Int32).toInt64 from by rw [nI_clamp (by omega)]; exact hu.1 hz9) ?_
      refine lv_iload hx hb dL_law_196 (lv_at hl 0 rfl) ?_
      refine ti (show (nI (if fApp (xs (i + 1)) ln = 0 then ln + 1 else 0)) = (nI (ln + 1)) from (by rw [if_pos hz9])) ?_
      refine lv_i2l (v := (nI (ln + 1)).toInt64) hx hb dL_law_198 rfl ?_
      refine W.lcmp hx hb dL_law_199 ?_
      refine lv_if_eq (tgt := 205) hx hb dL_law_200 (by decide) (fun c_200 => ?_) (fun c_200 => ?_)
      · have c_200 := lc_eq c_200
        refine lv_goto (tgt := 1691) hx hb dL_law_205 (by decide) ?_
        exact kk u.2 (r9) σ Hh n K fl (if fApp (xs (i + 1)) ln = 0 then up tx ln (xs (i + 1)).toNatClampNeg else tx) (if fApp (xs (i + 1)) ln = 0 then ln + 1 else ln) u.1 H locs ls (fI_mono hu.2 (by (try split) <;> omega) (by omega)) (mI_mono hr9.2 (by (try split) <;> omega) (by omega)) hP hD hS (lv_sub hl [2, 3, 4, 5, 6] rfl)
      · have c_200 := lc_ne c_200
        exact absurd rfl c_200
  · have c_183 := (nc_ne9 (by omega) (by omega) c_183)
    exact absurd rfl c_183
set_option maxHeartbeats 4000000 in
set_option maxRecDepth 100000 in
theorem lw_clearText {pX : Program} {l : Launch} {eX : Env} {s : State} {mX : MethodId} {below : List Frame} {meth : Method} {cX : Code} {b L : Nat} {xs : Nat → Int32} {QX : State → Prop} {A : Nat → Prop} (hfl : l.stackTraces = false) (g : va_G) (cy : Nat → ClassId) (hx : pX.tables.exec = Jvm.exec) (hb : cX.code = cL_law) (hml : cX.maxLocals = 7) (hown : s.vm.findClass RL = some mX.cls) (hts : ∀ w ∈ wsL_law, w.before #[Value.ref b] s = true) (hA : ∀ q : Nat, s.heap.size ≤ q → A q) (hK : va_K g vwCl (Ty cy) s) (hX : Cx A s s.heap) (hY : Cy s) (hXs : va_X b L xs s s.heap) (hbl : b < s.heap.size) (hbA : ¬ A b) (hL : L ≤ 3072)
    {x a tr s0 s1 ma : Nat → Nat} {pa : Nat → Nat → Nat} {out i bd cells slots : Nat} {q : Sc} {r : Mc} {σ : Nat → Nat} {Hh : Nat → Nat → Nat} {n : Nat} {K : Nat → Nat → Nat} {fl : Nat → Bool} {tx : Nat → Nat} {ln : Nat} {f : Nat → Int64} {H : Heap} {locs : List Loc} {ls : Array Slot} (hi : i + 6 ≤ L) (hbd1 : 11880 ≤ bd) (hbd2 : bd ≤ 63000) (hc9 : cells ≤ 10000) (hs9 : slots ≤ 100000) (hI : fI bd q σ Hh n K fl tx ln) (hM : mI bd r σ Hh n K fl tx ln) (hP : va_P g vwCl (mQ cy ma r σ n fl tx ln ++ ([aJ cy out 1 f] ++ fQ cy x a tr s0 s1 pa q σ n fl tx ln)) H) (hD : va_D A (mQ cy ma r σ n fl tx ln ++ ([aJ cy out 1 f] ++ fQ cy x a tr s0 s1 pa q σ n fl tx ln))) (hS : va_S A s.heap H locs) (hl : lv_has ls 7 [(0, .ref b), (1, .ref (x 0)), (2, .ref (ma 0)), (3, .ref out), (4, .int (nI i))])
    (kk : ∀ (q : Sc) (r : Mc) (σ : Nat → Nat) (Hh : Nat → Nat → Nat) (n : Nat) (K : Nat → Nat → Nat) (fl : Nat → Bool) (tx : Nat → Nat) (ln : Nat) (f : Nat → Int64) (H : Heap) (locs : List Loc) (ls : Array Slot), fI (bd + 99) q σ Hh n K fl tx ln → mI (bd + 99) r σ Hh n K fl tx ln → va_P g vwCl (mQ cy ma r σ n fl tx ln ++ ([aJ cy out 1 f] ++ fQ cy x a tr s0 s1 pa q σ n fl tx ln)) H → va_D A (mQ cy ma r σ n fl tx ln ++ ([aJ cy out 1 f] ++ fQ cy x a tr s0 s1 pa q σ n fl tx ln)) → va_S A s.heap H locs → lv_has ls 7 [(0, .ref b), (1, .ref (x 0)), (2, .ref (ma 0)), (3, .ref out), (4, .int (nI i))] → W pX l eX room_1 s mX #[Value.ref b] below meth cX H locs (cells + 1) (slots + 6) QX (F0 mX 1691 ls [])) :
    W pX l eX room_1 s mX #[Value.ref b] below meth cX H locs cells slots QX (F0 mX 208 ls []) := by
  have hl : lv_has ls 7 [(0, .ref b), (1, .ref (x 0)), (2, .ref (ma 0)), (3, .ref out), (4, .int (nI i))] := hl
  refine lv_aload_n hx hb dL_law_208 rfl (lv_at hl 1 rfl) ?_
  refine wr_callS (pre := (mQ cy ma r σ n fl tx ln ++ [aJ cy out 1 f])) (wc := fQ cy x a tr s0 s1 pa q σ n fl tx ln) (va_runV (As := []) (rest := []) ⟨hx, hb, hml, hown, hts⟩ (c_X7_clearText l g cy x a tr s0 s1 pa H.size bd q σ Hh n K fl tx ln hI) ⟨cB 0 hts wd8_6 wd1_2 wd8_3 rfl rfl (by decide +kernel) ⟨Nat.le_of_ble_eq_true rfl, Nat.le_of_ble_eq_true rfl⟩, hts _ wd8_4, hts _ wd8_5⟩ (pvS (pre := (mQ cy ma r σ n fl tx ln ++ [aJ cy out 1 f])) (wc := fQ cy x a tr s0 s1 pa q σ n fl tx ln) hK (by rw [List.append_assoc]; exact hP) (by rw [List.append_assoc]; exact hD) hS hA hX 5 rfl rfl) rfl rfl hl.1 rfl (lv_room (Nat.le_of_ble_eq_true rfl)) dL_law_209 ⟨by show _ ≤ 601024; omega, by show _ ≤ 7293033; omega⟩) (by rw [List.append_assoc]; exact hP) (by rw [List.append_assoc]; exact hD) hS hA (fun _ => fQ_ad) (fun u H locs hu hP hD hS => ?_)
  rw [List.append_assoc] at hP hD
  have hP : va_P g vwCl (mQ cy ma r σ n fl tx ln ++ ([aJ cy out 1 f] ++ fQ cy x a tr s0 s1 pa u σ n fl tx 0)) H := hP
  have hD : va_D A (mQ cy ma r σ n fl tx ln ++ ([aJ cy out 1 f] ++ fQ cy x a tr s0 s1 pa u σ n fl tx 0)) := hD
  show W _ _ _ _ _ _ _ _ _ _ _ _ _ _ _ (F0 mX 212 ls [.int (nI ln)])
  refine lv_aload_n hx hb dL_law_212 rfl (lv_at hl 2 rfl) ?_
  obtain ⟨hP, hD⟩ := sw_PD (L := []) (M := mQ cy ma r σ n fl tx ln) (T := ([aJ cy out 1 f] ++ fQ cy x a tr s0 s1 pa u σ n fl tx 0)) hP hD
  have hP : va_P g vwCl (([aJ cy out 1 f] ++ fQ cy x a tr s0 s1 pa u σ n fl tx 0) ++ mQ cy ma r σ n fl tx ln) H := hP
  have hD : va_D A (([aJ cy out 1 f] ++ fQ cy x a tr s0 s1 pa u σ n fl tx 0) ++ mQ cy ma r σ n fl tx ln) := hD
  refine wr_callS (pre := ([aJ cy out 1 f] ++ fQ cy x a tr s0 s1 pa u σ n fl tx 0)) (wc := mQ cy ma r σ n fl tx ln) (va_runV (As := []) (rest := [.int (nI ln)]) ⟨hx, hb, hml, hown, hts⟩ (c_X8_clearText l g cy ma H.size bd r σ Hh n K fl tx ln  hM ) ⟨cB 0 hts wd8_14 wd1_5 wd8_11 rfl rfl (by decide +kernel) ⟨Nat.le_of_ble_eq_true rfl, Nat.le_of_ble_eq_true rfl⟩, hts _ wd8_12, hts _ wd8_13⟩ (pvS hK hP hD hS hA hX 6 rfl rfl) rfl rfl hl.1 rfl (lv_room (Nat.le_of_ble_eq_true rfl)) dL_law_213 ⟨by show _ ≤ 601024; omega, by show _ ≤ 7293033; omega⟩) hP hD hS hA (fun _ => mQ_ad) (fun r9 H locs hr9 hP hD hS => ?_)
  have hP : va_P g vwCl (([aJ cy out 1 f] ++ fQ cy x a tr s0 s1 pa u σ n fl tx 0) ++ (mQ cy ma r9 σ n fl tx 0)) H := hP
  have hD : va_D A (([aJ cy out 1 f] ++ fQ cy x a tr s0 s1 pa u σ n fl tx 0) ++ (mQ cy ma r9 σ n fl tx 0)) := hD
  obtain ⟨hP, hD⟩ := sw_PD (L := []) (M := ([aJ cy out 1 f] ++ fQ cy x a tr s0 s1 pa u σ n fl tx 0)) (T := (mQ cy ma r9 σ n fl tx 0)) hP hD
  have hP : va_P g vwCl ((mQ cy ma r9 σ n fl tx 0) ++ ([aJ cy out 1 f] ++ fQ cy x a tr s0 s1 pa u σ n fl tx 0)) H := hP
  have hD : va_D A ((mQ cy ma r9 σ n fl tx 0) ++ ([aJ cy out 1 f] ++ fQ cy x a tr s0 s1 pa u σ n fl tx 0)) := hD
  show W _ _ _ _ _ _ _ _ _ _ _ _ _ _ _ (F0 mX 216 ls [.int (nI ln), .int (nI ln)])
  refine lv_icmp_eq (tgt := 1691) hx hb dL_law_216 (by decide) (fun c_216 => ?_) (fun c_216 => ?_)
  · skip
    refine W.widen (k := cells + 1) (n := slots + 6) (by omega) (by omega) ?_
    exact kk u (r9) σ Hh n K fl tx 0 f H locs ls (fI_mono hu (by (try split) <;> omega) (by omega)) (mI_mono hr9.2 (by (try split) <;> omega) (by omega)) hP hD hS (lv_sub hl [0, 1, 2, 3, 4] rfl)
  · skip
    exact absurd rfl c_216
set_option maxHeartbeats 4000000 in
set_option maxRecDepth 100000 in
theorem lw_errorPosition {pX : Program} {l : Launch} {eX : Env} {s : State} {mX : MethodId} {below : List Frame} {meth : Method} {cX : Code} {b L : Nat} {xs : Nat → Int32} {QX : State → Prop} {A : Nat → Prop} (hfl : l.stackTraces = false) (g : va_G) (cy : Nat → ClassId) (hx : pX.tables.exec = Jvm.exec) (hb : cX.code = cL_law) (hml : cX.maxLocals = 7) (hown : s.vm.findClass RL = some mX.cls) (hts : ∀ w ∈ wsL_law, w.before #[Value.ref b] s = true) (hA : ∀ q : Nat, s.heap.size ≤ q → A q) (hK : va_K g vwCl (Ty cy) s) (hX : Cx A s s.heap) (hY : Cy s) (hXs : va_X b L xs s s.heap) (hbl : b < s.heap.size) (hbA : ¬ A b) (hL : L ≤ 3072)
    {x a tr s0 s1 ma : Nat → Nat} {pa : Nat → Nat → Nat} {out i bd cells slots : Nat} {q : Sc} {r : Mc} {σ : Nat → Nat} {Hh : Nat → Nat → Nat} {n : Nat} {K : Nat → Nat → Nat} {fl : Nat → Bool} {tx : Nat → Nat} {ln : Nat} {f : Nat → Int64} {H : Heap} {locs : List Loc} {ls : Array Slot} (hi : i + 6 ≤ L) (hbd1 : 11880 ≤ bd) (hbd2 : bd ≤ 63000) (hc9 : cells ≤ 10000) (hs9 : slots ≤ 100000) (hI : fI bd q σ Hh n K fl tx ln) (hM : mI bd r σ Hh n K fl tx ln) (hP : va_P g vwCl (mQ cy ma r σ n fl tx ln ++ ([aJ cy out 1 f] ++ fQ cy x a tr s0 s1 pa q σ n fl tx ln)) H) (hD : va_D A (mQ cy ma r σ n fl tx ln ++ ([aJ cy out 1 f] ++ fQ cy x a tr s0 s1 pa q σ n fl tx ln))) (hS : va_S A s.heap H locs) (hl : lv_has ls 7 [(0, .ref b), (1, .ref (x 0)), (2, .ref (ma 0)), (3, .ref out), (4, .int (nI i))])
    (kk : ∀ (q : Sc) (r : Mc) (σ : Nat → Nat) (Hh : Nat → Nat → Nat) (n : Nat) (K : Nat → Nat → Nat) (fl : Nat → Bool) (tx : Nat → Nat) (ln : Nat) (f : Nat → Int64) (H : Heap) (locs : List Loc) (ls : Array Slot), fI (bd + 99) q σ Hh n K fl tx ln → mI (bd + 99) r σ Hh n K fl tx ln → va_P g vwCl (mQ cy ma r σ n fl tx ln ++ ([aJ cy out 1 f] ++ fQ cy x a tr s0 s1 pa q σ n fl tx ln)) H → va_D A (mQ cy ma r σ n fl tx ln ++ ([aJ cy out 1 f] ++ fQ cy x a tr s0 s1 pa q σ n fl tx ln)) → va_S A s.heap H locs → lv_has ls 7 [(0, .ref b), (1, .ref (x 0)), (2, .ref (ma 0)), (3, .ref out), (4, .int (nI i))] → W pX l eX room_1 s mX #[Value.ref b] below meth cX H locs (cells + 1) (slots + 6) QX (F0 mX 1691 ls [])) :
    W pX l eX room_1 s mX #[Value.ref b] below meth cX H locs cells slots QX (F0 mX 221 ls []) := by
  have hl : lv_has ls 7 [(0, .ref b), (1, .ref (x 0)), (2, .ref (ma 0)), (3, .ref out), (4, .int (nI i))] := hl
  refine lv_aload_n hx hb dL_law_221 rfl (lv_at hl 1 rfl) ?_
  refine wr_callS (pre := (mQ cy ma r σ n fl tx ln ++ [aJ cy out 1 f])) (wc := fQ cy x a tr s0 s1 pa q σ n fl tx ln) (va_runV (As := []) (rest := []) ⟨hx, hb, hml, hown, hts⟩ (c_X7_errorPosition l g cy x a tr s0 s1 pa H.size bd q σ Hh n K fl tx ln hI) ⟨cB 0 hts wd8_18 wd1_2 wd8_15 rfl rfl (by decide +kernel) ⟨Nat.le_of_ble_eq_true rfl, Nat.le_of_ble_eq_true rfl⟩, hts _ wd8_16, hts _ wd8_17⟩ (pvS (pre := (mQ cy ma r σ n fl tx ln ++ [aJ cy out 1 f])) (wc := fQ cy x a tr s0 s1 pa q σ n fl tx ln) hK (by rw [List.append_assoc]; exact hP) (by rw [List.append_assoc]; exact hD) hS hA hX 5 rfl rfl) rfl rfl hl.1 rfl (lv_room (Nat.le_of_ble_eq_true rfl)) dL_law_222 ⟨by show _ ≤ 601024; omega, by show _ ≤ 7293033; omega⟩) (by rw [List.append_assoc]; exact hP) (by rw [List.append_assoc]; exact hD) hS hA (fun _ => fQ_ad) (fun u H locs hu hP hD hS => ?_)
  rw [List.append_assoc] at hP hD
  have hP : va_P g vwCl (mQ cy ma r σ n fl tx ln ++ ([aJ cy out 1 f] ++ fQ cy x a tr s0 s1 pa u σ n fl tx ln)) H := hP
  have hD : va_D A (mQ cy ma r σ n fl tx ln ++ ([aJ cy out 1 f] ++ fQ cy x a tr s0 s1 pa u σ n fl tx ln)) := hD
  show W _ _ _ _ _ _ _ _ _ _ _ _ _ _ _ (F0 mX 225 ls [.int (nI (erF tx ln))])
  refine lv_aload_n hx hb dL_law_225 rfl (lv_at hl 2 rfl) ?_
  obtain ⟨hP, hD⟩ := sw_PD (L := []) (M := mQ cy ma r σ n fl tx ln) (T := ([aJ cy out 1 f] ++ fQ cy x a tr s0 s1 pa u σ n fl tx ln)) hP hD
  have hP : va_P g vwCl (([aJ cy out 1 f] ++ fQ cy x a tr s0 s1 pa u σ n fl tx ln) ++ mQ cy ma r σ n fl tx ln) H := hP
  have hD : va_D A (([aJ cy out 1 f] ++ fQ cy x a tr s0 s1 pa u σ n fl tx ln) ++ mQ cy ma r σ n fl tx ln) := hD
  refine wr_callS (pre := ([aJ cy out 1 f] ++ fQ cy x a tr s0 s1 pa u σ n fl tx ln)) (wc := mQ cy ma r σ n fl tx ln) (va_runV (As := []) (rest := [.int (nI (erF tx ln))]) ⟨hx, hb, hml, hown, hts⟩ (c_X8_errorPosition l g cy ma H.size bd r σ Hh n K fl tx ln  hM ) ⟨cB 0 hts wd10_17 wd1_5 wd10_14 rfl rfl (by decide +kernel) ⟨Nat.le_of_ble_eq_true rfl, Nat.le_of_ble_eq_true rfl⟩, hts _ wd10_15, hts _ wd10_16⟩ (pvS hK hP hD hS hA hX 6 rfl rfl) rfl rfl hl.1 rfl (lv_room (Nat.le_of_ble_eq_true rfl)) dL_law_226 ⟨by show _ ≤ 601024; omega, by show _ ≤ 7293033; omega⟩) hP hD hS hA (fun _ => mQ_ad) (fun r9 H locs hr9 hP hD hS => ?_)
  have hP : va_P g vwCl (([aJ cy out 1 f] ++ fQ cy x a tr s0 s1 pa u σ n fl tx ln) ++ (mQ cy ma r9 σ n fl tx ln)) H := hP
  have hD : va_D A (([aJ cy out 1 f] ++ fQ cy x a tr s0 s1 pa u σ n fl tx ln) ++ (mQ cy ma r9 σ n fl tx ln)) := hD
  obtain ⟨hP, hD⟩ := sw_PD (L := []) (M := ([aJ cy out 1 f] ++ fQ cy x a tr s0 s1 pa u σ n fl tx ln)) (T := (mQ cy ma r9 σ n fl tx ln)) hP hD
  have hP : va_P g vwCl ((mQ cy ma r9 σ n fl tx ln) ++ ([aJ cy out 1 f] ++ fQ cy x a tr s0 s1 pa u σ n fl tx ln)) H := hP
  have hD : va_D A ((mQ cy ma r9 σ n fl tx ln) ++ ([aJ cy out 1 f] ++ fQ cy x a tr s0 s1 pa u σ n fl tx ln)) := hD
  show W _ _ _ _ _ _ _ _ _ _ _ _ _ _ _ (F0 mX 229 ls [.int (nI (erF tx ln)), .int (nI (erF tx ln))])
  refine lv_icmp_eq (tgt := 1691) hx hb dL_law_229 (by decide) (fun c_229 => ?_) (fun c_229 => ?_)
  · skip
    refine W.widen (k := cells + 1) (n := slots + 6) (by omega) (by omega) ?_
    exact kk u (r9) σ Hh n K fl tx ln f H locs ls (fI_mono hu (by (try split) <;> omega) (by omega)) (mI_mono hr9.2 (by (try split) <;> omega) (by omega)) hP hD hS (lv_sub hl [0, 1, 2, 3, 4] rfl)
  · skip
    exact absurd rfl c_229
set_option maxHeartbeats 4000000 in
set_option maxRecDepth 100000 in
theorem lw_load {pX : Program} {l : Launch} {eX : Env} {s : State} {mX : MethodId} {below : List Frame} {meth : Method} {cX : Code} {b L : Nat} {xs : Nat → Int32} {QX : State → Prop} {A : Nat → Prop} (hfl : l.stackTraces = false) (g : va_G) (cy : Nat → ClassId) (hx : pX.tables.exec = Jvm.exec) (hb : cX.code = cL_law) (hml : cX.maxLocals = 7) (hown : s.vm.findClass RL = some mX.cls) (hts : ∀ w ∈ wsL_law, w.before #[Value.ref b] s = true) (hA : ∀ q : Nat, s.heap.size ≤ q → A q) (hK : va_K g vwCl (Ty cy) s) (hX : Cx A s s.heap) (hY : Cy s) (hXs : va_X b L xs s s.heap) (hbl : b < s.heap.size) (hbA : ¬ A b) (hL : L ≤ 3072)
    {x a tr s0 s1 ma : Nat → Nat} {pa : Nat → Nat → Nat} {out i bd cells slots : Nat} {q : Sc} {r : Mc} {σ : Nat → Nat} {Hh : Nat → Nat → Nat} {n : Nat} {K : Nat → Nat → Nat} {fl : Nat → Bool} {tx : Nat → Nat} {ln : Nat} {f : Nat → Int64} {H : Heap} {locs : List Loc} {ls : Array Slot} (hi : i + 6 ≤ L) (hbd1 : 11880 ≤ bd) (hbd2 : bd ≤ 63000) (hc9 : cells ≤ 10000) (hs9 : slots ≤ 100000) (hI : fI bd q σ Hh n K fl tx ln) (hM : mI bd r σ Hh n K fl tx ln) (hP : va_P g vwCl (mQ cy ma r σ n fl tx ln ++ ([aJ cy out 1 f] ++ fQ cy x a tr s0 s1 pa q σ n fl tx ln)) H) (hD : va_D A (mQ cy ma r σ n fl tx ln ++ ([aJ cy out 1 f] ++ fQ cy x a tr s0 s1 pa q σ n fl tx ln))) (hS : va_S A s.heap H locs) (hl : lv_has ls 7 [(0, .ref b), (1, .ref (x 0)), (2, .ref (ma 0)), (3, .ref out), (4, .int (nI i))])
    (kk : ∀ (q : Sc) (r : Mc) (σ : Nat → Nat) (Hh : Nat → Nat → Nat) (n : Nat) (K : Nat → Nat → Nat) (fl : Nat → Bool) (tx : Nat → Nat) (ln : Nat) (f : Nat → Int64) (H : Heap) (locs : List Loc) (ls : Array Slot), fI (bd + 99) q σ Hh n K fl tx ln → mI (bd + 99) r σ Hh n K fl tx ln → va_P g vwCl (mQ cy ma r σ n fl tx ln ++ ([aJ cy out 1 f] ++ fQ cy x a tr s0 s1 pa q σ n fl tx ln)) H → va_D A (mQ cy ma r σ n fl tx ln ++ ([aJ cy out 1 f] ++ fQ cy x a tr s0 s1 pa q σ n fl tx ln)) → va_S A s.heap H locs → lv_has ls 7 [(0, .ref b), (1, .ref (x 0)), (2, .ref (ma 0)), (3, .ref out), (4, .int (nI i))] → W pX l eX room_1 s mX #[Value.ref b] below meth cX H locs (cells + 1) (slots + 6) QX (F0 mX 1691 ls [])) :
    W pX l eX room_1 s mX #[Value.ref b] below meth cX H locs cells slots QX (F0 mX 234 ls []) := by
  have hl : lv_has ls 7 [(0, .ref b), (1, .ref (x 0)), (2, .ref (ma 0)), (3, .ref out), (4, .int (nI i))] := hl
  refine lv_aload_n hx hb dL_law_234 rfl (lv_at hl 1 rfl) ?_
  refine lv_aload_n hx hb dL_law_235 rfl (lv_at hl 3 rfl) ?_
  refine wr_callS (pre := mQ cy ma r σ n fl tx ln) (wc := ([aJ cy out 1 f] ++ fQ cy x a tr s0 s1 pa q σ n fl tx ln)) (vx_runSW (hh := [(0, 8, 11, 15)]) (As := [.ref (x 0), .ref out]) (rest := []) ⟨hx, hb, hml, hown, hts⟩ (c_L_load l hfl g cy out f x a tr s0 s1 pa H.size bd q σ Hh n K fl tx ln  hI ) (vx_cwSW 2 hts (hl_in wd15_18 wd6_9 wd15_16 wd15_17) rfl rfl rfl (by decide +kernel) ⟨Nat.le_of_ble_eq_true rfl, Nat.le_of_ble_eq_true rfl⟩) (ps2 hK hP hD hS hA hX hY _ nd_suffix at_suffix) rfl rfl hl.1 rfl (lv_room (Nat.le_of_ble_eq_true rfl)) dL_law_236 ⟨by show _ ≤ 601024; omega, by show _ ≤ 7293033; omega⟩) hP hD hS hA (fun _ => congrArg (fun z => out :: z) fQ_ad) (fun u H locs hu hP hD hS => ?_)
  have hP : va_P g vwCl (mQ cy ma r σ n fl tx ln ++ ([aJ cy out 1 u.1] ++ fQ cy x a tr s0 s1 pa u.2 (if fLoad tx ln = 0 then (ldA tx ln).1 else σ) (if fLoad tx ln = 0 then 0 else n) (if fLoad tx ln = 0 then fun _ => false else fl) tx ln)) H := hP
  have hD : va_D A (mQ cy ma r σ n fl tx ln ++ ([aJ cy out 1 u.1] ++ fQ cy x a tr s0 s1 pa u.2 (if fLoad tx ln = 0 then (ldA tx ln).1 else σ) (if fLoad tx ln = 0 then 0 else n) (if fLoad tx ln = 0 then fun _ => false else fl) tx ln)) := hD
  have hrk9 : rkm 0 0 1 (fLoad tx ln) < 10 := by unfold rkm; (repeat' split) <;> omega
  show W _ _ _ _ _ _ _ _ _ _ _ _ _ _ _ (F0 mX 239 ls [.int (nI (rkm 0 0 1 (fLoad tx ln)))])
  refine lv_istore (lv' := [(5, .int (nI (rkm 0 0 1 (fLoad tx ln)))), (0, .ref b), (1, .ref (x 0)), (2, .ref (ma 0)), (3, .ref out), (4, .int (nI i))]) hx hb dL_law_239 hl (by decide) rfl (fun ls hl => ?_)
  refine lv_aload_n hx hb dL_law_241 rfl (lv_at hl 3 rfl) ?_
  obtain ⟨hP, hD⟩ := sw_PD (L := []) (M := mQ cy ma r σ n fl tx ln) (T := ([aJ cy out 1 u.1] ++ fQ cy x a tr s0 s1 pa u.2 (if fLoad tx ln = 0 then (ldA tx ln).1 else σ) (if fLoad tx ln = 0 then 0 else n) (if fLoad tx ln = 0 then fun _ => false else fl) tx ln)) hP hD
  have hP : va_P g vwCl (([aJ cy out 1 u.1] ++ fQ cy x a tr s0 s1 pa u.2 (if fLoad tx ln = 0 then (ldA tx ln).1 else σ) (if fLoad tx ln = 0 then 0 else n) (if fLoad tx ln = 0 then fun _ => false else fl) tx ln) ++ mQ cy ma r σ n fl tx ln) H := hP
  have hD : va_D A (([aJ cy out 1 u.1] ++ fQ cy x a tr s0 s1 pa u.2 (if fLoad tx ln = 0 then (ldA tx ln).1 else σ) (if fLoad tx ln = 0 then 0 else n) (if fLoad tx ln = 0 then fun _ => false else fl) tx ln) ++ mQ cy ma r σ n fl tx ln) := hD
  refine wr_callS (pre := ([aJ cy out 1 u.1] ++ fQ cy x a tr s0 s1 pa u.2 (if fLoad tx ln = 0 then (ldA tx ln).1 else σ) (if fLoad tx ln = 0 then 0 else n) (if fLoad tx ln = 0 then fun _ => false else fl) tx ln)) (wc := mQ cy ma r σ n fl tx ln) (va_runV (As := []) (rest := []) ⟨hx, hb, hml, hown, hts⟩ (c_X8_load l g cy ma H.size bd r σ Hh n K fl tx ln  hM (by omega)) ⟨cB 0 hts wd22_23 wd1_5 wd22_20 rfl rfl (by decide +kernel) ⟨Nat.le_of_ble_eq_true rfl, Nat.le_of_ble_eq_true rfl⟩, hts _ wd22_21, hts _ wd22_22⟩ (pvS hK hP hD hS hA hX 6 rfl rfl) rfl rfl hl.1 rfl (lv_room (Nat.le_of_ble_eq_true rfl)) dL_law_242 ⟨by show _ ≤ 601024; omega, by show _ ≤ 7293033; omega⟩) hP hD hS hA (fun _ => mQ_ad) (fun r9 H locs hr9 hP hD hS => ?_)
  have hP : va_P g vwCl (([aJ cy out 1 u.1] ++ fQ cy x a tr s0 s1 pa u.2 (if fLoad tx ln = 0 then (ldA tx ln).1 else σ) (if fLoad tx ln = 0 then 0 else n) (if fLoad tx ln = 0 then fun _ => false else fl) tx ln) ++ (mQ cy ma r9 (if fLoad tx ln = 0 then (ldA tx ln).1 else σ) (if fLoad tx ln = 0 then 0 else n) (if fLoad tx ln = 0 then fun _ => false else fl) tx ln)) H := hP
  have hD : va_D A (([aJ cy out 1 u.1] ++ fQ cy x a tr s0 s1 pa u.2 (if fLoad tx ln = 0 then (ldA tx ln).1 else σ) (if fLoad tx ln = 0 then 0 else n) (if fLoad tx ln = 0 then fun _ => false else fl) tx ln) ++ (mQ cy ma r9 (if fLoad tx ln = 0 then (ldA tx ln).1 else σ) (if fLoad tx ln = 0 then 0 else n) (if fLoad tx ln = 0 then fun _ => false else fl) tx ln)) := hD
  obtain ⟨hP, hD⟩ := sw_PD (L := []) (M := ([aJ cy out 1 u.1] ++ fQ cy x a tr s0 s1 pa u.2 (if fLoad tx ln = 0 then (ldA tx ln).1 else σ) (if fLoad tx ln = 0 then 0 else n) (if fLoad tx ln = 0 then fun _ => false else fl) tx ln)) (T := (mQ cy ma r9 (if fLoad tx ln = 0 then (ldA tx ln).1 else σ) (if fLoad tx ln = 0 then 0 else n) (if fLoad tx ln = 0 then fun _ => false else fl) tx ln)) hP hD
  have hP : va_P g vwCl ((mQ cy ma r9 (if fLoad tx ln = 0 then (ldA tx ln).1 else σ) (if fLoad tx ln = 0 then 0 else n) (if fLoad tx ln = 0 then fun _ => false else fl) tx ln) ++ ([aJ cy out 1 u.1] ++ fQ cy x a tr s0 s1 pa u.2 (if fLoad tx ln = 0 then (ldA tx ln).1 else σ) (if fLoad tx ln = 0 then 0 else n) (if fLoad tx ln = 0 then fun _ => false else fl) tx ln)) H := hP
  have hD : va_D A ((mQ cy ma r9 (if fLoad tx ln = 0 then (ldA tx ln).1 else σ) (if fLoad tx ln = 0 then 0 else n) (if fLoad tx ln = 0 then fun _ => false else fl) tx ln) ++ ([aJ cy out 1 u.1] ++ fQ cy x a tr s0 s1 pa u.2 (if fLoad tx ln = 0 then (ldA tx ln).1 else σ) (if fLoad tx ln = 0 then 0 else n) (if fLoad tx ln = 0 then fun _ => false else fl) tx ln)) := hD
  show W _ _ _ _ _ _ _ _ _ _ _ _ _ _ _ (F0 mX 245 ls [.int (nI (if fLoad tx ln = 0 then (ldA tx ln).2 else 0))])
  refine lv_istore (lv' := [(6, .int (nI (if fLoad tx ln = 0 then (ldA tx ln).2 else 0))), (5, .int (nI (rkm 0 0 1 (fLoad tx ln)))), (0, .ref b), (1, .ref (x 0)), (2, .ref (ma 0)), (3, .ref out), (4, .int (nI i))]) hx hb dL_law_245 hl (by decide) rfl (fun ls hl => ?_)
  refine lv_aload_n hx hb dL_law_247 rfl (lv_at hl 4 rfl) ?_
  obtain ⟨hP, hD⟩ := sw_PD (L := []) (M := (mQ cy ma r9 (if fLoad tx ln = 0 then (ldA tx ln).1 else σ) (if fLoad tx ln = 0 then 0 else n) (if fLoad tx ln = 0 then fun _ => false else fl) tx ln)) (T := ([aJ cy out 1 u.1] ++ fQ cy x a tr s0 s1 pa u.2 (if fLoad tx ln = 0 then (ldA tx ln).1 else σ) (if fLoad tx ln = 0 then 0 else n) (if fLoad tx ln = 0 then fun _ => false else fl) tx ln)) hP hD
  have hP : va_P g vwCl (([aJ cy out 1 u.1] ++ fQ cy x a tr s0 s1 pa u.2 (if fLoad tx ln = 0 then (ldA tx ln).1 else σ) (if fLoad tx ln = 0 then 0 else n) (if fLoad tx ln = 0 then fun _ => false else fl) tx ln) ++ (mQ cy ma r9 (if fLoad tx ln = 0 then (ldA tx ln).1 else σ) (if fLoad tx ln = 0 then 0 else n) (if fLoad tx ln = 0 then fun _ => false else fl) tx ln)) H := hP
  have hD : va_D A (([aJ cy out 1 u.1] ++ fQ cy x a tr s0 s1 pa u.2 (if fLoad tx ln = 0 then (ldA tx ln).1 else σ) (if fLoad tx ln = 0 then 0 else n) (if fLoad tx ln = 0 then fun _ => false else fl) tx ln) ++ (mQ cy ma r9 (if fLoad tx ln = 0 then (ldA tx ln).1 else σ) (if fLoad tx ln = 0 then 0 else n) (if fLoad tx ln = 0 then fun _ => false else fl) tx ln)) := hD
  refine rd_call (va_runV (As := []) (rest := []) ⟨hx, hb, hml, hown, hts⟩ (c_X8_thrown l g cy H.size ma r9.1 r9.2.1 r9.2.2.1 r9.2.2.2.1 r9.2.2.2.2.1 r9.2.2.2.2.2.1 r9.2.2.2.2.2.2.1 r9.2.2.2.2.2.2.2 (if fLoad tx ln = 0 then (ldA tx ln).1 else σ) (if fLoad tx ln = 0 then 0 else n) (if fLoad tx ln = 0 then fun _ => false else fl) tx ln) ⟨cB 0 hts wd8_2 wd1_5 wd7_23 rfl rfl (by decide +kernel) ⟨Nat.le_of_ble_eq_true rfl, Nat.le_of_ble_eq_true rfl⟩, hts _ wd8_0, hts _ wd8_1⟩ (pvS (wc := (mQ cy ma r9 (if fLoad tx ln = 0 then (ldA tx ln).1 else σ) (if fLoad tx ln = 0 then 0 else n) (if fLoad tx ln = 0 then fun _ => false else fl) tx ln)) hK hP hD hS hA hX 6 rfl rfl) rfl rfl hl.1 rfl (lv_room (Nat.le_of_ble_eq_true rfl)) dL_law_248 ⟨by show _ ≤ 601024; omega, by show _ ≤ 7293033; omega⟩) ?_
  obtain ⟨hP, hD⟩ := sw_PD (L := []) (M := ([aJ cy out 1 u.1] ++ fQ cy x a tr s0 s1 pa u.2 (if fLoad tx ln = 0 then (ldA tx ln).1 else σ) (if fLoad tx ln = 0 then 0 else n) (if fLoad tx ln = 0 then fun _ => false else fl) tx ln)) (T := (mQ cy ma r9 (if fLoad tx ln = 0 then (ldA tx ln).1 else σ) (if fLoad tx ln = 0 then 0 else n) (if fLoad tx ln = 0 then fun _ => false else fl) tx ln)) hP hD
  have hP : va_P g vwCl ((mQ cy ma r9 (if fLoad tx ln = 0 then (ldA tx ln).1 else σ) (if fLoad tx ln = 0 then 0 else n) (if fLoad tx ln = 0 then fun _ => false else fl) tx ln) ++ ([aJ cy out 1 u.1] ++ fQ cy x a tr s0 s1 pa u.2 (if fLoad tx ln = 0 then (ldA tx ln).1 else σ) (if fLoad tx ln = 0 then 0 else n) (if fLoad tx ln = 0 then fun _ => false else fl) tx ln)) H := hP
  have hD : va_D A ((mQ cy ma r9 (if fLoad tx ln = 0 then (ldA tx ln).1 else σ) (if fLoad tx ln = 0 then 0 else n) (if fLoad tx ln = 0 then fun _ => false else fl) tx ln) ++ ([aJ cy out 1 u.1] ++ fQ cy x a tr s0 s1 pa u.2 (if fLoad tx ln = 0 then (ldA tx ln).1 else σ) (if fLoad tx ln = 0 then 0 else n) (if fLoad tx ln = 0 then fun _ => false else fl) tx ln)) := hD
  refine ti (show nI r9.2.2.2.2.2.2.2 = nI (rkm 0 0 1 (fLoad tx ln)) from congrArg nI hr9.1) ?_
  show W _ _ _ _ _ _ _ _ _ _ _ _ _ _ _ (F0 mX 251 ls [.int (nI (rkm 0 0 1 (fLoad tx ln)))])
  refine lv_iload hx hb dL_law_251 (lv_at hl 1 rfl) ?_
  refine lv_icmp_eq (tgt := 258) hx hb dL_law_253 (by decide) (fun c_253 => ?_) (fun c_253 => ?_)
  · have c_253 := (nc_eq9 (by omega) (by omega) c_253)
    refine lv_iload hx hb dL_law_258 (lv_at hl 1 rfl) ?_
    refine lv_if_ne (tgt := 275) hx hb dL_law_260 (by decide) (fun c_260 => ?_) (fun c_260 => ?_)
    · have c_260 := (nz_ne c_260 (by omega))
      refine lv_goto (tgt := 1691) hx hb dL_law_275 (by decide) ?_
      exact kk u.2 (r9) (if fLoad tx ln = 0 then (ldA tx ln).1 else σ) Hh (if fLoad tx ln = 0 then 0 else n) K (if fLoad tx ln = 0 then fun _ => false else fl) tx ln u.1 H locs ls (fI_mono hu.2 (by (try split) <;> omega) (by omega)) (mI_mono hr9.2 (by (try split) <;> omega) (by omega)) hP hD hS (lv_sub hl [2, 3, 4, 5, 6] rfl)
    · have c_260 := (nz_eq c_260 (by omega))
      have c_260 : rkm 0 0 1 (fLoad tx ln) = 0 := c_260
      have hz9 : fLoad tx ln = 0 := rkm_z (by unfold fLoad rkm; (repeat' split) <;> omega) c_260
      refine lv_aload_n hx hb dL_law_263 rfl (lv_at hl 5 rfl) ?_
      refine lv_iconst (v := (nI 0)) hx hb dL_law_264 (by decide) ?_
      refine va_lald hx hb hK hP 9 3 rfl rfl (vp_in_nI (n := 0) (by omega) (by omega)) dL_law_265 ?_
      refine tl (show u.1 (nI 0).toNatClampNeg = ((nI ((ldA tx ln).2)) : Int32).toInt64 from by rw [nI_clamp (by omega)]; exact hu.1 hz9) ?_
      refine lv_iload hx hb dL_law_266 (lv_at hl 0 rfl) ?_
      refine ti (show (nI (if fLoad tx ln = 0 then (ldA tx ln).2 else 0)) = (nI ((ldA tx ln).2)) from (by rw [if_pos hz9])) ?_
      refine lv_i2l (v := (nI ((ldA tx ln).2)).toInt64) hx hb dL_law_268 rfl ?_
      refine W.lcmp hx hb dL_law_269 ?_
      refine lv_if_eq (tgt := 275) hx hb dL_law_270 (by decide) (fun c_270 => ?_) (fun c_270 => ?_)
      · have c_270 := lc_eq c_270
        refine lv_goto (tgt := 1691) hx hb dL_law_275 (by decide) ?_
        exact kk u.2 (r9) (if fLoad tx ln = 0 then (ldA tx ln).1 else σ) Hh (if fLoad tx ln = 0 then 0 else n) K (if fLoad tx ln = 0 then fun _ => false else fl) tx ln u.1 H locs ls (fI_mono hu.2 (by (try split) <;> omega) (by omega)) (mI_mono hr9.2 (by (try split) <;> omega) (by omega)) hP hD hS (lv_sub hl [2, 3, 4, 5, 6] rfl)
      · have c_270 := lc_ne c_270
        exact absurd rfl c_270
  · have c_253 := (nc_ne9 (by omega) (by omega) c_253)
    exact absurd rfl c_253
set_option maxHeartbeats 4000000 in
set_option maxRecDepth 100000 in
theorem lw_about {pX : Program} {l : Launch} {eX : Env} {s : State} {mX : MethodId} {below : List Frame} {meth : Method} {cX : Code} {b L : Nat} {xs : Nat → Int32} {QX : State → Prop} {A : Nat → Prop} (hfl : l.stackTraces = false) (g : va_G) (cy : Nat → ClassId) (hx : pX.tables.exec = Jvm.exec) (hb : cX.code = cL_law) (hml : cX.maxLocals = 7) (hown : s.vm.findClass RL = some mX.cls) (hts : ∀ w ∈ wsL_law, w.before #[Value.ref b] s = true) (hA : ∀ q : Nat, s.heap.size ≤ q → A q) (hK : va_K g vwCl (Ty cy) s) (hX : Cx A s s.heap) (hY : Cy s) (hXs : va_X b L xs s s.heap) (hbl : b < s.heap.size) (hbA : ¬ A b) (hL : L ≤ 3072)
    {x a tr s0 s1 ma : Nat → Nat} {pa : Nat → Nat → Nat} {out i bd cells slots : Nat} {q : Sc} {r : Mc} {σ : Nat → Nat} {Hh : Nat → Nat → Nat} {n : Nat} {K : Nat → Nat → Nat} {fl : Nat → Bool} {tx : Nat → Nat} {ln : Nat} {f : Nat → Int64} {H : Heap} {locs : List Loc} {ls : Array Slot} (hi : i + 6 ≤ L) (hbd1 : 11880 ≤ bd) (hbd2 : bd ≤ 63000) (hc9 : cells ≤ 10000) (hs9 : slots ≤ 100000) (hI : fI bd q σ Hh n K fl tx ln) (hM : mI bd r σ Hh n K fl tx ln) (hP : va_P g vwCl (mQ cy ma r σ n fl tx ln ++ ([aJ cy out 1 f] ++ fQ cy x a tr s0 s1 pa q σ n fl tx ln)) H) (hD : va_D A (mQ cy ma r σ n fl tx ln ++ ([aJ cy out 1 f] ++ fQ cy x a tr s0 s1 pa q σ n fl tx ln))) (hS : va_S A s.heap H locs) (hl : lv_has ls 7 [(0, .ref b), (1, .ref (x 0)), (2, .ref (ma 0)), (3, .ref out), (4, .int (nI i))])
    (kk : ∀ (q : Sc) (r : Mc) (σ : Nat → Nat) (Hh : Nat → Nat → Nat) (n : Nat) (K : Nat → Nat → Nat) (fl : Nat → Bool) (tx : Nat → Nat) (ln : Nat) (f : Nat → Int64) (H : Heap) (locs : List Loc) (ls : Array Slot), fI (bd + 99) q σ Hh n K fl tx ln → mI (bd + 99) r σ Hh n K fl tx ln → va_P g vwCl (mQ cy ma r σ n fl tx ln ++ ([aJ cy out 1 f] ++ fQ cy x a tr s0 s1 pa q σ n fl tx ln)) H → va_D A (mQ cy ma r σ n fl tx ln ++ ([aJ cy out 1 f] ++ fQ cy x a tr s0 s1 pa q σ n fl tx ln)) → va_S A s.heap H locs → lv_has ls 7 [(0, .ref b), (1, .ref (x 0)), (2, .ref (ma 0)), (3, .ref out), (4, .int (nI i))] → W pX l eX room_1 s mX #[Value.ref b] below meth cX H locs (cells + 1) (slots + 6) QX (F0 mX 1691 ls [])) :
    W pX l eX room_1 s mX #[Value.ref b] below meth cX H locs cells slots QX (F0 mX 278 ls []) := by
  have hl : lv_has ls 7 [(0, .ref b), (1, .ref (x 0)), (2, .ref (ma 0)), (3, .ref out), (4, .int (nI i))] := hl
  refine lv_aload_n hx hb dL_law_278 rfl (lv_at hl 1 rfl) ?_
  refine lv_aload_n hx hb dL_law_279 rfl (lv_at hl 0 rfl) ?_
  refine lv_iload hx hb dL_law_280 (lv_at hl 4 rfl) ?_
  refine lv_iconst (v := (nI 1)) hx hb dL_law_282 (by decide) ?_
  refine lv_iadd hx hb dL_law_283 ?_
  refine ti (nI_add i 1) ?_
  refine va_sld hx hb hXs hbl hbA hS (vp_in_nI (n := (i + 1)) (by omega) (by omega)) dL_law_284 ?_
  refine ti (show xs (nI (i + 1)).toNatClampNeg = xs (i + 1) from by rw [nI_clamp (by omega)]) ?_
  refine lv_aload_n hx hb dL_law_285 rfl (lv_at hl 3 rfl) ?_
  refine wr_callS (pre := mQ cy ma r σ n fl tx ln) (wc := ([aJ cy out 1 f] ++ fQ cy x a tr s0 s1 pa q σ n fl tx ln)) (vx_runSW (hh := [(0, 9, 12, 13)]) (As := [.ref (x 0), .int (xs (i + 1)), .ref out]) (rest := []) ⟨hx, hb, hml, hown, hts⟩ (c_L_about l hfl g cy out f x a tr s0 s1 pa H.size bd q σ Hh n K fl tx ln (xs (i + 1)) hI ) (vx_cwSW 3 hts (hl_in wd23_6 wd6_9 wd23_4 wd23_5) rfl rfl rfl (by decide +kernel) ⟨Nat.le_of_ble_eq_true rfl, Nat.le_of_ble_eq_true rfl⟩) (ps2 hK hP hD hS hA hX hY _ nd_suffix at_suffix) rfl rfl hl.1 rfl (lv_room (Nat.le_of_ble_eq_true rfl)) dL_law_286 ⟨by show _ ≤ 601024; omega, by show _ ≤ 7293033; omega⟩) hP hD hS hA (fun _ => congrArg (fun z => out :: z) fQ_ad) (fun u H locs hu hP hD hS => ?_)
  have hP : va_P g vwCl (mQ cy ma r σ n fl tx ln ++ ([aJ cy out 1 u.1] ++ fQ cy x a tr s0 s1 pa u.2 σ n fl tx ln)) H := hP
  have hD : va_D A (mQ cy ma r σ n fl tx ln ++ ([aJ cy out 1 u.1] ++ fQ cy x a tr s0 s1 pa u.2 σ n fl tx ln)) := hD
  have hrk9 : rkm 0 1 0 (fAbo (xs (i + 1))) < 10 := by unfold rkm; (repeat' split) <;> omega
  show W _ _ _ _ _ _ _ _ _ _ _ _ _ _ _ (F0 mX 289 ls [.int (nI (rkm 0 1 0 (fAbo (xs (i + 1)))))])
  refine lv_istore (lv' := [(5, .int (nI (rkm 0 1 0 (fAbo (xs (i + 1)))))), (0, .ref b), (1, .ref (x 0)), (2, .ref (ma 0)), (3, .ref out), (4, .int (nI i))]) hx hb dL_law_289 hl (by decide) rfl (fun ls hl => ?_)
  refine lv_aload_n hx hb dL_law_291 rfl (lv_at hl 3 rfl) ?_
  refine lv_aload_n hx hb dL_law_292 rfl (lv_at hl 1 rfl) ?_
  refine lv_iload hx hb dL_law_293 (lv_at hl 5 rfl) ?_
  refine lv_iconst (v := (nI 1)) hx hb dL_law_295 (by decide) ?_
  refine lv_iadd hx hb dL_law_296 ?_
  refine ti (nI_add i 1) ?_
  refine va_sld hx hb hXs hbl hbA hS (vp_in_nI (n := (i + 1)) (by omega) (by omega)) dL_law_297 ?_
  refine ti (show xs (nI (i + 1)).toNatClampNeg = xs (i + 1) from by rw [nI_clamp (by omega)]) ?_
  obtain ⟨hP, hD⟩ := sw_PD (L := []) (M := mQ cy ma r σ n fl tx ln) (T := ([aJ cy out 1 u.1] ++ fQ cy x a tr s0 s1 pa u.2 σ n fl tx ln)) hP hD
  have hP : va_P g vwCl (([aJ cy out 1 u.1] ++ fQ cy x a tr s0 s1 pa u.2 σ n fl tx ln) ++ mQ cy ma r σ n fl tx ln) H := hP
  have hD : va_D A (([aJ cy out 1 u.1] ++ fQ cy x a tr s0 s1 pa u.2 σ n fl tx ln) ++ mQ cy ma r σ n fl tx ln) := hD
  refine wr_callS (pre := ([aJ cy out 1 u.1] ++ fQ cy x a tr s0 s1 pa u.2 σ n fl tx ln)) (wc := mQ cy ma r σ n fl tx ln) (va_runV (As := [.int (xs (i + 1))]) (rest := []) ⟨hx, hb, hml, hown, hts⟩ (c_X8_about l g cy ma H.size bd r σ Hh n K fl tx ln (xs (i + 1)) hM ) ⟨cB 1 hts wd24_6 wd1_5 wd24_3 rfl rfl (by decide +kernel) ⟨Nat.le_of_ble_eq_true rfl, Nat.le_of_ble_eq_true rfl⟩, hts _ wd24_4, hts _ wd24_5⟩ (pvS hK hP hD hS hA hX 6 rfl rfl) rfl rfl hl.1 rfl (lv_room (Nat.le_of_ble_eq_true rfl)) dL_law_298 ⟨by show _ ≤ 601024; omega, by show _ ≤ 7293033; omega⟩) hP hD hS hA (fun _ => mQ_ad) (fun r9 H locs hr9 hP hD hS => ?_)
  have hP : va_P g vwCl (([aJ cy out 1 u.1] ++ fQ cy x a tr s0 s1 pa u.2 σ n fl tx ln) ++ (mQ cy ma r9 σ n fl tx ln)) H := hP
  have hD : va_D A (([aJ cy out 1 u.1] ++ fQ cy x a tr s0 s1 pa u.2 σ n fl tx ln) ++ (mQ cy ma r9 σ n fl tx ln)) := hD
  obtain ⟨hP, hD⟩ := sw_PD (L := []) (M := ([aJ cy out 1 u.1] ++ fQ cy x a tr s0 s1 pa u.2 σ n fl tx ln)) (T := (mQ cy ma r9 σ n fl tx ln)) hP hD
  have hP : va_P g vwCl ((mQ cy ma r9 σ n fl tx ln) ++ ([aJ cy out 1 u.1] ++ fQ cy x a tr s0 s1 pa u.2 σ n fl tx ln)) H := hP
  have hD : va_D A ((mQ cy ma r9 σ n fl tx ln) ++ ([aJ cy out 1 u.1] ++ fQ cy x a tr s0 s1 pa u.2 σ n fl tx ln)) := hD
  show W _ _ _ _ _ _ _ _ _ _ _ _ _ _ _ (F0 mX 301 ls [.int (nI (if fAbo (xs (i + 1)) = 0 then nbd σ (xs (i + 1)).toNatClampNeg else 0))])
  refine lv_istore (lv' := [(6, .int (nI (if fAbo (xs (i + 1)) = 0 then nbd σ (xs (i + 1)).toNatClampNeg else 0))), (5, .int (nI (rkm 0 1 0 (fAbo (xs (i + 1)))))), (0, .ref b), (1, .ref (x 0)), (2, .ref (ma 0)), (3, .ref out), (4, .int (nI i))]) hx hb dL_law_301 hl (by decide) rfl (fun ls hl => ?_)
  refine lv_aload_n hx hb dL_law_303 rfl (lv_at hl 4 rfl) ?_
  obtain ⟨hP, hD⟩ := sw_PD (L := []) (M := (mQ cy ma r9 σ n fl tx ln)) (T := ([aJ cy out 1 u.1] ++ fQ cy x a tr s0 s1 pa u.2 σ n fl tx ln)) hP hD
  have hP : va_P g vwCl (([aJ cy out 1 u.1] ++ fQ cy x a tr s0 s1 pa u.2 σ n fl tx ln) ++ (mQ cy ma r9 σ n fl tx ln)) H := hP
  have hD : va_D A (([aJ cy out 1 u.1] ++ fQ cy x a tr s0 s1 pa u.2 σ n fl tx ln) ++ (mQ cy ma r9 σ n fl tx ln)) := hD
  refine rd_call (va_runV (As := []) (rest := []) ⟨hx, hb, hml, hown, hts⟩ (c_X8_thrown l g cy H.size ma r9.1 r9.2.1 r9.2.2.1 r9.2.2.2.1 r9.2.2.2.2.1 r9.2.2.2.2.2.1 r9.2.2.2.2.2.2.1 r9.2.2.2.2.2.2.2 σ n fl tx ln) ⟨cB 0 hts wd8_2 wd1_5 wd7_23 rfl rfl (by decide +kernel) ⟨Nat.le_of_ble_eq_true rfl, Nat.le_of_ble_eq_true rfl⟩, hts _ wd8_0, hts _ wd8_1⟩ (pvS (wc := (mQ cy ma r9 σ n fl tx ln)) hK hP hD hS hA hX 6 rfl rfl) rfl rfl hl.1 rfl (lv_room (Nat.le_of_ble_eq_true rfl)) dL_law_304 ⟨by show _ ≤ 601024; omega, by show _ ≤ 7293033; omega⟩) ?_
  obtain ⟨hP, hD⟩ := sw_PD (L := []) (M := ([aJ cy out 1 u.1] ++ fQ cy x a tr s0 s1 pa u.2 σ n fl tx ln)) (T := (mQ cy ma r9 σ n fl tx ln)) hP hD
  have hP : va_P g vwCl ((mQ cy ma r9 σ n fl tx ln) ++ ([aJ cy out 1 u.1] ++ fQ cy x a tr s0 s1 pa u.2 σ n fl tx ln)) H := hP
  have hD : va_D A ((mQ cy ma r9 σ n fl tx ln) ++ ([aJ cy out 1 u.1] ++ fQ cy x a tr s0 s1 pa u.2 σ n fl tx ln)) := hD
  refine ti (show nI r9.2.2.2.2.2.2.2 = nI (rkm 0 1 0 (fAbo (xs (i + 1)))) from congrArg nI hr9.1) ?_
  show W _ _ _ _ _ _ _ _ _ _ _ _ _ _ _ (F0 mX 307 ls [.int (nI (rkm 0 1 0 (fAbo (xs (i + 1)))))])
  refine lv_iload hx hb dL_law_307 (lv_at hl 1 rfl) ?_
  refine lv_icmp_eq (tgt := 314) hx hb dL_law_309 (by decide) (fun c_309 => ?_) (fun c_309 => ?_)
  · have c_309 := (nc_eq9 (by omega) (by omega) c_309)
    refine lv_iload hx hb dL_law_314 (lv_at hl 1 rfl) ?_
    refine lv_if_ne (tgt := 331) hx hb dL_law_316 (by decide) (fun c_316 => ?_) (fun c_316 => ?_)
    · have c_316 := (nz_ne c_316 (by omega))
      refine lv_goto (tgt := 1691) hx hb dL_law_331 (by decide) ?_
      exact kk u.2 (r9) σ Hh n K fl tx ln u.1 H locs ls (fI_mono hu.2 (by (try split) <;> omega) (by omega)) (mI_mono hr9.2 (by (try split) <;> omega) (by omega)) hP hD hS (lv_sub hl [2, 3, 4, 5, 6] rfl)
    · have c_316 := (nz_eq c_316 (by omega))
      have c_316 : rkm 0 1 0 (fAbo (xs (i + 1))) = 0 := c_316
      have hz9 : fAbo (xs (i + 1)) = 0 := rkm_z (by unfold fAbo rkm; (repeat' split) <;> omega) c_316
      refine lv_aload_n hx hb dL_law_319 rfl (lv_at hl 5 rfl) ?_
      refine lv_iconst (v := (nI 0)) hx hb dL_law_320 (by decide) ?_
      refine va_lald hx hb hK hP 9 3 rfl rfl (vp_in_nI (n := 0) (by omega) (by omega)) dL_law_321 ?_
      refine tl (show u.1 (nI 0).toNatClampNeg = ((nI (nbd σ (xs (i + 1)).toNatClampNeg)) : Int32).toInt64 from by rw [nI_clamp (by omega)]; exact hu.1 hz9) ?_
      refine lv_iload hx hb dL_law_322 (lv_at hl 0 rfl) ?_
      refine ti (show (nI (if fAbo (xs (i + 1)) = 0 then nbd σ (xs (i + 1)).toNatClampNeg else 0)) = (nI (nbd σ (xs (i + 1)).toNatClampNeg)) from (by rw [if_pos hz9])) ?_
      refine lv_i2l (v := (nI (nbd σ (xs (i + 1)).toNatClampNeg)).toInt64) hx hb dL_law_324 rfl ?_
      refine W.lcmp hx hb dL_law_325 ?_
      refine lv_if_eq (tgt := 331) hx hb dL_law_326 (by decide) (fun c_326 => ?_) (fun c_326 => ?_)
      · have c_326 := lc_eq c_326
        refine lv_goto (tgt := 1691) hx hb dL_law_331 (by decide) ?_
        exact kk u.2 (r9) σ Hh n K fl tx ln u.1 H locs ls (fI_mono hu.2 (by (try split) <;> omega) (by omega)) (mI_mono hr9.2 (by (try split) <;> omega) (by omega)) hP hD hS (lv_sub hl [2, 3, 4, 5, 6] rfl)
      · have c_326 := lc_ne c_326
        exact absurd rfl c_326
  · have c_309 := (nc_ne9 (by omega) (by omega) c_309)
    exact absurd rfl c_309
set_option maxHeartbeats 4000000 in
set_option maxRecDepth 100000 in
theorem lw_dogOf {pX : Program} {l : Launch} {eX : Env} {s : State} {mX : MethodId} {below : List Frame} {meth : Method} {cX : Code} {b L : Nat} {xs : Nat → Int32} {QX : State → Prop} {A : Nat → Prop} (hfl : l.stackTraces = false) (g : va_G) (cy : Nat → ClassId) (hx : pX.tables.exec = Jvm.exec) (hb : cX.code = cL_law) (hml : cX.maxLocals = 7) (hown : s.vm.findClass RL = some mX.cls) (hts : ∀ w ∈ wsL_law, w.before #[Value.ref b] s = true) (hA : ∀ q : Nat, s.heap.size ≤ q → A q) (hK : va_K g vwCl (Ty cy) s) (hX : Cx A s s.heap) (hY : Cy s) (hXs : va_X b L xs s s.heap) (hbl : b < s.heap.size) (hbA : ¬ A b) (hL : L ≤ 3072)
    {x a tr s0 s1 ma : Nat → Nat} {pa : Nat → Nat → Nat} {out i bd cells slots : Nat} {q : Sc} {r : Mc} {σ : Nat → Nat} {Hh : Nat → Nat → Nat} {n : Nat} {K : Nat → Nat → Nat} {fl : Nat → Bool} {tx : Nat → Nat} {ln : Nat} {f : Nat → Int64} {H : Heap} {locs : List Loc} {ls : Array Slot} (hi : i + 6 ≤ L) (hbd1 : 11880 ≤ bd) (hbd2 : bd ≤ 63000) (hc9 : cells ≤ 10000) (hs9 : slots ≤ 100000) (hI : fI bd q σ Hh n K fl tx ln) (hM : mI bd r σ Hh n K fl tx ln) (hP : va_P g vwCl (mQ cy ma r σ n fl tx ln ++ ([aJ cy out 1 f] ++ fQ cy x a tr s0 s1 pa q σ n fl tx ln)) H) (hD : va_D A (mQ cy ma r σ n fl tx ln ++ ([aJ cy out 1 f] ++ fQ cy x a tr s0 s1 pa q σ n fl tx ln))) (hS : va_S A s.heap H locs) (hl : lv_has ls 7 [(0, .ref b), (1, .ref (x 0)), (2, .ref (ma 0)), (3, .ref out), (4, .int (nI i))])
    (kk : ∀ (q : Sc) (r : Mc) (σ : Nat → Nat) (Hh : Nat → Nat → Nat) (n : Nat) (K : Nat → Nat → Nat) (fl : Nat → Bool) (tx : Nat → Nat) (ln : Nat) (f : Nat → Int64) (H : Heap) (locs : List Loc) (ls : Array Slot), fI (bd + 99) q σ Hh n K fl tx ln → mI (bd + 99) r σ Hh n K fl tx ln → va_P g vwCl (mQ cy ma r σ n fl tx ln ++ ([aJ cy out 1 f] ++ fQ cy x a tr s0 s1 pa q σ n fl tx ln)) H → va_D A (mQ cy ma r σ n fl tx ln ++ ([aJ cy out 1 f] ++ fQ cy x a tr s0 s1 pa q σ n fl tx ln)) → va_S A s.heap H locs → lv_has ls 7 [(0, .ref b), (1, .ref (x 0)), (2, .ref (ma 0)), (3, .ref out), (4, .int (nI i))] → W pX l eX room_1 s mX #[Value.ref b] below meth cX H locs (cells + 1) (slots + 6) QX (F0 mX 1691 ls [])) :
    W pX l eX room_1 s mX #[Value.ref b] below meth cX H locs cells slots QX (F0 mX 334 ls []) := by
  have hl : lv_has ls 7 [(0, .ref b), (1, .ref (x 0)), (2, .ref (ma 0)), (3, .ref out), (4, .int (nI i))] := hl
  refine lv_aload_n hx hb dL_law_334 rfl (lv_at hl 1 rfl) ?_
  refine lv_aload_n hx hb dL_law_335 rfl (lv_at hl 0 rfl) ?_
  refine lv_iload hx hb dL_law_336 (lv_at hl 4 rfl) ?_
  refine lv_iconst (v := (nI 1)) hx hb dL_law_338 (by decide) ?_
  refine lv_iadd hx hb dL_law_339 ?_
  refine ti (nI_add i 1) ?_
  refine va_sld hx hb hXs hbl hbA hS (vp_in_nI (n := (i + 1)) (by omega) (by omega)) dL_law_340 ?_
  refine ti (show xs (nI (i + 1)).toNatClampNeg = xs (i + 1) from by rw [nI_clamp (by omega)]) ?_
  refine lv_aload_n hx hb dL_law_341 rfl (lv_at hl 0 rfl) ?_
  refine lv_iload hx hb dL_law_342 (lv_at hl 4 rfl) ?_
  refine lv_iconst (v := (nI 2)) hx hb dL_law_344 (by decide) ?_
  refine lv_iadd hx hb dL_law_345 ?_
  refine ti (nI_add i 2) ?_
  refine va_sld hx hb hXs hbl hbA hS (vp_in_nI (n := (i + 2)) (by omega) (by omega)) dL_law_346 ?_
  refine ti (show xs (nI (i + 2)).toNatClampNeg = xs (i + 2) from by rw [nI_clamp (by omega)]) ?_
  refine lv_aload_n hx hb dL_law_347 rfl (lv_at hl 3 rfl) ?_
  refine wr_callS (pre := mQ cy ma r σ n fl tx ln) (wc := ([aJ cy out 1 f] ++ fQ cy x a tr s0 s1 pa q σ n fl tx ln)) (vx_runSW (hh := [(0, 10, 13, 28), (0, 10, 17, 13)]) (As := [.ref (x 0), .int (xs (i + 1)), .int (xs (i + 2)), .ref out]) (rest := []) ⟨hx, hb, hml, hown, hts⟩ (c_L_dogOf l hfl g cy out f x a tr s0 s1 pa H.size bd q σ Hh n K fl tx ln (xs (i + 1)) (xs (i + 2)) hI ) (vx_cwSW 4 hts (hl_in wd24_23 wd6_9 wd24_21 wd24_22) rfl rfl rfl (by decide +kernel) ⟨Nat.le_of_ble_eq_true rfl, Nat.le_of_ble_eq_true rfl⟩) (ps2 hK hP hD hS hA hX hY _ nd_suffix at_suffix) rfl rfl hl.1 rfl (lv_room (Nat.le_of_ble_eq_true rfl)) dL_law_348 ⟨by show _ ≤ 601024; omega, by show _ ≤ 7293033; omega⟩) hP hD hS hA (fun _ => congrArg (fun z => out :: z) fQ_ad) (fun u H locs hu hP hD hS => ?_)
  have hP : va_P g vwCl (mQ cy ma r σ n fl tx ln ++ ([aJ cy out 1 u.1] ++ fQ cy x a tr s0 s1 pa u.2 σ n fl tx ln)) H := hP
  have hD : va_D A (mQ cy ma r σ n fl tx ln ++ ([aJ cy out 1 u.1] ++ fQ cy x a tr s0 s1 pa u.2 σ n fl tx ln)) := hD
  have hrk9 : rkm 1 2 0 (fDog σ (xs (i + 1)) (xs (i + 2))) < 10 := by unfold rkm; (repeat' split) <;> omega
  show W _ _ _ _ _ _ _ _ _ _ _ _ _ _ _ (F0 mX 351 ls [.int (nI (rkm 1 2 0 (fDog σ (xs (i + 1)) (xs (i + 2)))))])
  refine lv_istore (lv' := [(5, .int (nI (rkm 1 2 0 (fDog σ (xs (i + 1)) (xs (i + 2)))))), (0, .ref b), (1, .ref (x 0)), (2, .ref (ma 0)), (3, .ref out), (4, .int (nI i))]) hx hb dL_law_351 hl (by decide) rfl (fun ls hl => ?_)
  refine lv_aload_n hx hb dL_law_353 rfl (lv_at hl 3 rfl) ?_
  refine lv_aload_n hx hb dL_law_354 rfl (lv_at hl 1 rfl) ?_
  refine lv_iload hx hb dL_law_355 (lv_at hl 5 rfl) ?_
  refine lv_iconst (v := (nI 1)) hx hb dL_law_357 (by decide) ?_
  refine lv_iadd hx hb dL_law_358 ?_
  refine ti (nI_add i 1) ?_
  refine va_sld hx hb hXs hbl hbA hS (vp_in_nI (n := (i + 1)) (by omega) (by omega)) dL_law_359 ?_
  refine ti (show xs (nI (i + 1)).toNatClampNeg = xs (i + 1) from by rw [nI_clamp (by omega)]) ?_
  refine lv_aload_n hx hb dL_law_360 rfl (lv_at hl 1 rfl) ?_
  refine lv_iload hx hb dL_law_361 (lv_at hl 5 rfl) ?_
  refine lv_iconst (v := (nI 2)) hx hb dL_law_363 (by decide) ?_
  refine lv_iadd hx hb dL_law_364 ?_
  refine ti (nI_add i 2) ?_
  refine va_sld hx hb hXs hbl hbA hS (vp_in_nI (n := (i + 2)) (by omega) (by omega)) dL_law_365 ?_
  refine ti (show xs (nI (i + 2)).toNatClampNeg = xs (i + 2) from by rw [nI_clamp (by omega)]) ?_
  obtain ⟨hP, hD⟩ := sw_PD (L := []) (M := mQ cy ma r σ n fl tx ln) (T := ([aJ cy out 1 u.1] ++ fQ cy x a tr s0 s1 pa u.2 σ n fl tx ln)) hP hD
  have hP : va_P g vwCl (([aJ cy out 1 u.1] ++ fQ cy x a tr s0 s1 pa u.2 σ n fl tx ln) ++ mQ cy ma r σ n fl tx ln) H := hP
  have hD : va_D A (([aJ cy out 1 u.1] ++ fQ cy x a tr s0 s1 pa u.2 σ n fl tx ln) ++ mQ cy ma r σ n fl tx ln) := hD
  refine wr_callS (pre := ([aJ cy out 1 u.1] ++ fQ cy x a tr s0 s1 pa u.2 σ n fl tx ln)) (wc := mQ cy ma r σ n fl tx ln) (va_runV (As := [.int (xs (i + 1)), .int (xs (i + 2))]) (rest := []) ⟨hx, hb, hml, hown, hts⟩ (c_X8_dogOf l g cy ma H.size bd r σ Hh n K fl tx ln (xs (i + 1)) (xs (i + 2)) hM ) ⟨cB 2 hts wd25_19 wd1_5 wd25_16 rfl rfl (by decide +kernel) ⟨Nat.le_of_ble_eq_true rfl, Nat.le_of_ble_eq_true rfl⟩, hts _ wd25_17, hts _ wd25_18⟩ (pvS hK hP hD hS hA hX 6 rfl rfl) rfl rfl hl.1 rfl (lv_room (Nat.le_of_ble_eq_true rfl)) dL_law_366 ⟨by show _ ≤ 601024; omega, by show _ ≤ 7293033; omega⟩) hP hD hS hA (fun _ => mQ_ad) (fun r9 H locs hr9 hP hD hS => ?_)
  have hP : va_P g vwCl (([aJ cy out 1 u.1] ++ fQ cy x a tr s0 s1 pa u.2 σ n fl tx ln) ++ (mQ cy ma r9 σ n fl tx ln)) H := hP
  have hD : va_D A (([aJ cy out 1 u.1] ++ fQ cy x a tr s0 s1 pa u.2 σ n fl tx ln) ++ (mQ cy ma r9 σ n fl tx ln)) := hD
  obtain ⟨hP, hD⟩ := sw_PD (L := []) (M := ([aJ cy out 1 u.1] ++ fQ cy x a tr s0 s1 pa u.2 σ n fl tx ln)) (T := (mQ cy ma r9 σ n fl tx ln)) hP hD
  have hP : va_P g vwCl ((mQ cy ma r9 σ n fl tx ln) ++ ([aJ cy out 1 u.1] ++ fQ cy x a tr s0 s1 pa u.2 σ n fl tx ln)) H := hP
  have hD : va_D A ((mQ cy ma r9 σ n fl tx ln) ++ ([aJ cy out 1 u.1] ++ fQ cy x a tr s0 s1 pa u.2 σ n fl tx ln)) := hD
  show W _ _ _ _ _ _ _ _ _ _ _ _ _ _ _ (F0 mX 369 ls [.int (nI (if fDog σ (xs (i + 1)) (xs (i + 2)) = 0 then ndg σ (xs (i + 1)).toNatClampNeg (xs (i + 2)).toNatClampNeg else 0))])
  refine lv_istore (lv' := [(6, .int (nI (if fDog σ (xs (i + 1)) (xs (i + 2)) = 0 then ndg σ (xs (i + 1)).toNatClampNeg (xs (i + 2)).toNatClampNeg else 0))), (5, .int (nI (rkm 1 2 0 (fDog σ (xs (i + 1)) (xs (i + 2)))))), (0, .ref b), (1, .ref (x 0)), (2, .ref (ma 0)), (3, .ref out), (4, .int (nI i))]) hx hb dL_law_369 hl (by decide) rfl (fun ls hl => ?_)
  refine lv_aload_n hx hb dL_law_371 rfl (lv_at hl 4 rfl) ?_
  obtain ⟨hP, hD⟩ := sw_PD (L := []) (M := (mQ cy ma r9 σ n fl tx ln)) (T := ([aJ cy out 1 u.1] ++ fQ cy x a tr s0 s1 pa u.2 σ n fl tx ln)) hP hD
  have hP : va_P g vwCl (([aJ cy out 1 u.1] ++ fQ cy x a tr s0 s1 pa u.2 σ n fl tx ln) ++ (mQ cy ma r9 σ n fl tx ln)) H := hP
  have hD : va_D A (([aJ cy out 1 u.1] ++ fQ cy x a tr s0 s1 pa u.2 σ n fl tx ln) ++ (mQ cy ma r9 σ n fl tx ln)) := hD
  refine rd_call (va_runV (As := []) (rest := []) ⟨hx, hb, hml, hown, hts⟩ (c_X8_thrown l g cy H.size ma r9.1 r9.2.1 r9.2.2.1 r9.2.2.2.1 r9.2.2.2.2.1 r9.2.2.2.2.2.1 r9.2.2.2.2.2.2.1 r9.2.2.2.2.2.2.2 σ n fl tx ln) ⟨cB 0 hts wd8_2 wd1_5 wd7_23 rfl rfl (by decide +kernel) ⟨Nat.le_of_ble_eq_true rfl, Nat.le_of_ble_eq_true rfl⟩, hts _ wd8_0, hts _ wd8_1⟩ (pvS (wc := (mQ cy ma r9 σ n fl tx ln)) hK hP hD hS hA hX 6 rfl rfl) rfl rfl hl.1 rfl (lv_room (Nat.le_of_ble_eq_true rfl)) dL_law_372 ⟨by show _ ≤ 601024; omega, by show _ ≤ 7293033; omega⟩) ?_
  obtain ⟨hP, hD⟩ := sw_PD (L := []) (M := ([aJ cy out 1 u.1] ++ fQ cy x a tr s0 s1 pa u.2 σ n fl tx ln)) (T := (mQ cy ma r9 σ n fl tx ln)) hP hD
  have hP : va_P g vwCl ((mQ cy ma r9 σ n fl tx ln) ++ ([aJ cy out 1 u.1] ++ fQ cy x a tr s0 s1 pa u.2 σ n fl tx ln)) H := hP
  have hD : va_D A ((mQ cy ma r9 σ n fl tx ln) ++ ([aJ cy out 1 u.1] ++ fQ cy x a tr s0 s1 pa u.2 σ n fl tx ln)) := hD
  refine ti (show nI r9.2.2.2.2.2.2.2 = nI (rkm 1 2 0 (fDog σ (xs (i + 1)) (xs (i + 2)))) from congrArg nI hr9.1) ?_
  show W _ _ _ _ _ _ _ _ _ _ _ _ _ _ _ (F0 mX 375 ls [.int (nI (rkm 1 2 0 (fDog σ (xs (i + 1)) (xs (i + 2)))))])
  refine lv_iload hx hb dL_law_375 (lv_at hl 1 rfl) ?_
  refine lv_icmp_eq (tgt := 382) hx hb dL_law_377 (by decide) (fun c_377 => ?_) (fun c_377 => ?_)
  · have c_377 := (nc_eq9 (by omega) (by omega) c_377)
    refine lv_iload hx hb dL_law_382 (lv_at hl 1 rfl) ?_
    refine lv_if_ne (tgt := 399) hx hb dL_law_384 (by decide) (fun c_384 => ?_) (fun c_384 => ?_)
    · have c_384 := (nz_ne c_384 (by omega))
      refine lv_goto (tgt := 1691) hx hb dL_law_399 (by decide) ?_
      exact kk u.2 (r9) σ Hh n K fl tx ln u.1 H locs ls (fI_mono hu.2 (by (try split) <;> omega) (by omega)) (mI_mono hr9.2 (by (try split) <;> omega) (by omega)) hP hD hS (lv_sub hl [2, 3, 4, 5, 6] rfl)
    · have c_384 := (nz_eq c_384 (by omega))
      have c_384 : rkm 1 2 0 (fDog σ (xs (i + 1)) (xs (i + 2))) = 0 := c_384
      have hz9 : fDog σ (xs (i + 1)) (xs (i + 2)) = 0 := rkm_z (by unfold fDog rkm; (repeat' split) <;> omega) c_384
      refine lv_aload_n hx hb dL_law_387 rfl (lv_at hl 5 rfl) ?_
      refine lv_iconst (v := (nI 0)) hx hb dL_law_388 (by decide) ?_
      refine va_lald hx hb hK hP 9 3 rfl rfl (vp_in_nI (n := 0) (by omega) (by omega)) dL_law_389 ?_
      refine tl (show u.1 (nI 0).toNatClampNeg = ((nI (ndg σ (xs (i + 1)).toNatClampNeg (xs (i + 2)).toNatClampNeg)) : Int32).toInt64 from by rw [nI_clamp (by omega)]; exact hu.1 hz9) ?_
      refine lv_iload hx hb dL_law_390 (lv_at hl 0 rfl) ?_
      refine ti (show (nI (if fDog σ (xs (i + 1)) (xs (i + 2)) = 0 then ndg σ (xs (i + 1)).toNatClampNeg (xs (i + 2)).toNatClampNeg else 0)) = (nI (ndg σ (xs (i + 1)).toNatClampNeg (xs (i + 2)).toNatClampNeg)) from (by rw [if_pos hz9])) ?_
      refine lv_i2l (v := (nI (ndg σ (xs (i + 1)).toNatClampNeg (xs (i + 2)).toNatClampNeg)).toInt64) hx hb dL_law_392 rfl ?_
      refine W.lcmp hx hb dL_law_393 ?_
      refine lv_if_eq (tgt := 399) hx hb dL_law_394 (by decide) (fun c_394 => ?_) (fun c_394 => ?_)
      · have c_394 := lc_eq c_394
        refine lv_goto (tgt := 1691) hx hb dL_law_399 (by decide) ?_
        exact kk u.2 (r9) σ Hh n K fl tx ln u.1 H locs ls (fI_mono hu.2 (by (try split) <;> omega) (by omega)) (mI_mono hr9.2 (by (try split) <;> omega) (by omega)) hP hD hS (lv_sub hl [2, 3, 4, 5, 6] rfl)
      · have c_394 := lc_ne c_394
        exact absurd rfl c_394
  · have c_377 := (nc_ne9 (by omega) (by omega) c_377)
    exact absurd rfl c_377
set_option maxHeartbeats 4000000 in
set_option maxRecDepth 100000 in
theorem lw_sightingOf {pX : Program} {l : Launch} {eX : Env} {s : State} {mX : MethodId} {below : List Frame} {meth : Method} {cX : Code} {b L : Nat} {xs : Nat → Int32} {QX : State → Prop} {A : Nat → Prop} (hfl : l.stackTraces = false) (g : va_G) (cy : Nat → ClassId) (hx : pX.tables.exec = Jvm.exec) (hb : cX.code = cL_law) (hml : cX.maxLocals = 7) (hown : s.vm.findClass RL = some mX.cls) (hts : ∀ w ∈ wsL_law, w.before #[Value.ref b] s = true) (hA : ∀ q : Nat, s.heap.size ≤ q → A q) (hK : va_K g vwCl (Ty cy) s) (hX : Cx A s s.heap) (hY : Cy s) (hXs : va_X b L xs s s.heap) (hbl : b < s.heap.size) (hbA : ¬ A b) (hL : L ≤ 3072)
    {x a tr s0 s1 ma : Nat → Nat} {pa : Nat → Nat → Nat} {out i bd cells slots : Nat} {q : Sc} {r : Mc} {σ : Nat → Nat} {Hh : Nat → Nat → Nat} {n : Nat} {K : Nat → Nat → Nat} {fl : Nat → Bool} {tx : Nat → Nat} {ln : Nat} {f : Nat → Int64} {H : Heap} {locs : List Loc} {ls : Array Slot} (hi : i + 6 ≤ L) (hbd1 : 11880 ≤ bd) (hbd2 : bd ≤ 63000) (hc9 : cells ≤ 10000) (hs9 : slots ≤ 100000) (hI : fI bd q σ Hh n K fl tx ln) (hM : mI bd r σ Hh n K fl tx ln) (hP : va_P g vwCl (mQ cy ma r σ n fl tx ln ++ ([aJ cy out 1 f] ++ fQ cy x a tr s0 s1 pa q σ n fl tx ln)) H) (hD : va_D A (mQ cy ma r σ n fl tx ln ++ ([aJ cy out 1 f] ++ fQ cy x a tr s0 s1 pa q σ n fl tx ln))) (hS : va_S A s.heap H locs) (hl : lv_has ls 7 [(0, .ref b), (1, .ref (x 0)), (2, .ref (ma 0)), (3, .ref out), (4, .int (nI i))])
    (kk : ∀ (q : Sc) (r : Mc) (σ : Nat → Nat) (Hh : Nat → Nat → Nat) (n : Nat) (K : Nat → Nat → Nat) (fl : Nat → Bool) (tx : Nat → Nat) (ln : Nat) (f : Nat → Int64) (H : Heap) (locs : List Loc) (ls : Array Slot), fI (bd + 99) q σ Hh n K fl tx ln → mI (bd + 99) r σ Hh n K fl tx ln → va_P g vwCl (mQ cy ma r σ n fl tx ln ++ ([aJ cy out 1 f] ++ fQ cy x a tr s0 s1 pa q σ n fl tx ln)) H → va_D A (mQ cy ma r σ n fl tx ln ++ ([aJ cy out 1 f] ++ fQ cy x a tr s0 s1 pa q σ n fl tx ln)) → va_S A s.heap H locs → lv_has ls 7 [(0, .ref b), (1, .ref (x 0)), (2, .ref (ma 0)), (3, .ref out), (4, .int (nI i))] → W pX l eX room_1 s mX #[Value.ref b] below meth cX H locs (cells + 1) (slots + 6) QX (F0 mX 1691 ls [])) :
    W pX l eX room_1 s mX #[Value.ref b] below meth cX H locs cells slots QX (F0 mX 402 ls []) := by
  have hl : lv_has ls 7 [(0, .ref b), (1, .ref (x 0)), (2, .ref (ma 0)), (3, .ref out), (4, .int (nI i))] := hl
  refine lv_aload_n hx hb dL_law_402 rfl (lv_at hl 1 rfl) ?_
  refine lv_aload_n hx hb dL_law_403 rfl (lv_at hl 0 rfl) ?_
  refine lv_iload hx hb dL_law_404 (lv_at hl 4 rfl) ?_
  refine lv_iconst (v := (nI 1)) hx hb dL_law_406 (by decide) ?_
  refine lv_iadd hx hb dL_law_407 ?_
  refine ti (nI_add i 1) ?_
  refine va_sld hx hb hXs hbl hbA hS (vp_in_nI (n := (i + 1)) (by omega) (by omega)) dL_law_408 ?_
  refine ti (show xs (nI (i + 1)).toNatClampNeg = xs (i + 1) from by rw [nI_clamp (by omega)]) ?_
  refine lv_aload_n hx hb dL_law_409 rfl (lv_at hl 0 rfl) ?_
  refine lv_iload hx hb dL_law_410 (lv_at hl 4 rfl) ?_
  refine lv_iconst (v := (nI 2)) hx hb dL_law_412 (by decide) ?_
  refine lv_iadd hx hb dL_law_413 ?_
  refine ti (nI_add i 2) ?_
  refine va_sld hx hb hXs hbl hbA hS (vp_in_nI (n := (i + 2)) (by omega) (by omega)) dL_law_414 ?_
  refine ti (show xs (nI (i + 2)).toNatClampNeg = xs (i + 2) from by rw [nI_clamp (by omega)]) ?_
  refine lv_aload_n hx hb dL_law_415 rfl (lv_at hl 3 rfl) ?_
  refine wr_callS (pre := mQ cy ma r σ n fl tx ln) (wc := ([aJ cy out 1 f] ++ fQ cy x a tr s0 s1 pa q σ n fl tx ln)) (vx_runSW (hh := [(0, 10, 13, 28), (0, 10, 17, 13)]) (As := [.ref (x 0), .int (xs (i + 1)), .int (xs (i + 2)), .ref out]) (rest := []) ⟨hx, hb, hml, hown, hts⟩ (c_L_sightingOf l hfl g cy out f x a tr s0 s1 pa H.size bd q σ Hh n K fl tx ln (xs (i + 1)) (xs (i + 2)) hI ) (vx_cwSW 4 hts (hl_in wd25_22 wd6_9 wd25_20 wd25_21) rfl rfl rfl (by decide +kernel) ⟨Nat.le_of_ble_eq_true rfl, Nat.le_of_ble_eq_true rfl⟩) (ps2 hK hP hD hS hA hX hY _ nd_suffix at_suffix) rfl rfl hl.1 rfl (lv_room (Nat.le_of_ble_eq_true rfl)) dL_law_416 ⟨by show _ ≤ 601024; omega, by show _ ≤ 7293033; omega⟩) hP hD hS hA (fun _ => congrArg (fun z => out :: z) fQ_ad) (fun u H locs hu hP hD hS => ?_)
  have hP : va_P g vwCl (mQ cy ma r σ n fl tx ln ++ ([aJ cy out 1 u.1] ++ fQ cy x a tr s0 s1 pa u.2 σ n fl tx ln)) H := hP
  have hD : va_D A (mQ cy ma r σ n fl tx ln ++ ([aJ cy out 1 u.1] ++ fQ cy x a tr s0 s1 pa u.2 σ n fl tx ln)) := hD
  have hrk9 : rkm 1 2 0 (fSig σ (xs (i + 1)) (xs (i + 2))) < 10 := by unfold rkm; (repeat' split) <;> omega
  show W _ _ _ _ _ _ _ _ _ _ _ _ _ _ _ (F0 mX 419 ls [.int (nI (rkm 1 2 0 (fSig σ (xs (i + 1)) (xs (i + 2)))))])
  refine lv_istore (lv' := [(5, .int (nI (rkm 1 2 0 (fSig σ (xs (i + 1)) (xs (i + 2)))))), (0, .ref b), (1, .ref (x 0)), (2, .ref (ma 0)), (3, .ref out), (4, .int (nI i))]) hx hb dL_law_419 hl (by decide) rfl (fun ls hl => ?_)
  refine lv_aload_n hx hb dL_law_421 rfl (lv_at hl 3 rfl) ?_
  refine lv_aload_n hx hb dL_law_422 rfl (lv_at hl 1 rfl) ?_
  refine lv_iload hx hb dL_law_423 (lv_at hl 5 rfl) ?_
  refine lv_iconst (v := (nI 1)) hx hb dL_law_425 (by decide) ?_
  refine lv_iadd hx hb dL_law_426 ?_
  refine ti (nI_add i 1) ?_
  refine va_sld hx hb hXs hbl hbA hS (vp_in_nI (n := (i + 1)) (by omega) (by omega)) dL_law_427 ?_
  refine ti (show xs (nI (i + 1)).toNatClampNeg = xs (i + 1) from by rw [nI_clamp (by omega)]) ?_
  refine lv_aload_n hx hb dL_law_428 rfl (lv_at hl 1 rfl) ?_
  refine lv_iload hx hb dL_law_429 (lv_at hl 5 rfl) ?_
  refine lv_iconst (v := (nI 2)) hx hb dL_law_431 (by decide) ?_
  refine lv_iadd hx hb dL_law_432 ?_
  refine ti (nI_add i 2) ?_
  refine va_sld hx hb hXs hbl hbA hS (vp_in_nI (n := (i + 2)) (by omega) (by omega)) dL_law_433 ?_
  refine ti (show xs (nI (i + 2)).toNatClampNeg = xs (i + 2) from by rw [nI_clamp (by omega)]) ?_
  obtain ⟨hP, hD⟩ := sw_PD (L := []) (M := mQ cy ma r σ n fl tx ln) (T := ([aJ cy out 1 u.1] ++ fQ cy x a tr s0 s1 pa u.2 σ n fl tx ln)) hP hD
  have hP : va_P g vwCl (([aJ cy out 1 u.1] ++ fQ cy x a tr s0 s1 pa u.2 σ n fl tx ln) ++ mQ cy ma r σ n fl tx ln) H := hP
  have hD : va_D A (([aJ cy out 1 u.1] ++ fQ cy x a tr s0 s1 pa u.2 σ n fl tx ln) ++ mQ cy ma r σ n fl tx ln) := hD
  refine wr_callS (pre := ([aJ cy out 1 u.1] ++ fQ cy x a tr s0 s1 pa u.2 σ n fl tx ln)) (wc := mQ cy ma r σ n fl tx ln) (va_runV (As := [.int (xs (i + 1)), .int (xs (i + 2))]) (rest := []) ⟨hx, hb, hml, hown, hts⟩ (c_X8_sightingOf l g cy ma H.size bd r σ Hh n K fl tx ln (xs (i + 1)) (xs (i + 2)) hM ) ⟨cB 2 hts wd26_10 wd1_5 wd26_7 rfl rfl (by decide +kernel) ⟨Nat.le_of_ble_eq_true rfl, Nat.le_of_ble_eq_true rfl⟩, hts _ wd26_8, hts _ wd26_9⟩ (pvS hK hP hD hS hA hX 6 rfl rfl) rfl rfl hl.1 rfl (lv_room (Nat.le_of_ble_eq_true rfl)) dL_law_434 ⟨by show _ ≤ 601024; omega, by show _ ≤ 7293033; omega⟩) hP hD hS hA (fun _ => mQ_ad) (fun r9 H locs hr9 hP hD hS => ?_)
  have hP : va_P g vwCl (([aJ cy out 1 u.1] ++ fQ cy x a tr s0 s1 pa u.2 σ n fl tx ln) ++ (mQ cy ma r9 σ n fl tx ln)) H := hP
  have hD : va_D A (([aJ cy out 1 u.1] ++ fQ cy x a tr s0 s1 pa u.2 σ n fl tx ln) ++ (mQ cy ma r9 σ n fl tx ln)) := hD
  obtain ⟨hP, hD⟩ := sw_PD (L := []) (M := ([aJ cy out 1 u.1] ++ fQ cy x a tr s0 s1 pa u.2 σ n fl tx ln)) (T := (mQ cy ma r9 σ n fl tx ln)) hP hD
  have hP : va_P g vwCl ((mQ cy ma r9 σ n fl tx ln) ++ ([aJ cy out 1 u.1] ++ fQ cy x a tr s0 s1 pa u.2 σ n fl tx ln)) H := hP
  have hD : va_D A ((mQ cy ma r9 σ n fl tx ln) ++ ([aJ cy out 1 u.1] ++ fQ cy x a tr s0 s1 pa u.2 σ n fl tx ln)) := hD
  show W _ _ _ _ _ _ _ _ _ _ _ _ _ _ _ (F0 mX 437 ls [.int (nI (if fSig σ (xs (i + 1)) (xs (i + 2)) = 0 then nsg σ (xs (i + 1)).toNatClampNeg (xs (i + 2)).toNatClampNeg else 0))])
  refine lv_istore (lv' := [(6, .int (nI (if fSig σ (xs (i + 1)) (xs (i + 2)) = 0 then nsg σ (xs (i + 1)).toNatClampNeg (xs (i + 2)).toNatClampNeg else 0))), (5, .int (nI (rkm 1 2 0 (fSig σ (xs (i + 1)) (xs (i + 2)))))), (0, .ref b), (1, .ref (x 0)), (2, .ref (ma 0)), (3, .ref out), (4, .int (nI i))]) hx hb dL_law_437 hl (by decide) rfl (fun ls hl => ?_)
  refine lv_aload_n hx hb dL_law_439 rfl (lv_at hl 4 rfl) ?_
  obtain ⟨hP, hD⟩ := sw_PD (L := []) (M := (mQ cy ma r9 σ n fl tx ln)) (T := ([aJ cy out 1 u.1] ++ fQ cy x a tr s0 s1 pa u.2 σ n fl tx ln)) hP hD
  have hP : va_P g vwCl (([aJ cy out 1 u.1] ++ fQ cy x a tr s0 s1 pa u.2 σ n fl tx ln) ++ (mQ cy ma r9 σ n fl tx ln)) H := hP
  have hD : va_D A (([aJ cy out 1 u.1] ++ fQ cy x a tr s0 s1 pa u.2 σ n fl tx ln) ++ (mQ cy ma r9 σ n fl tx ln)) := hD
  refine rd_call (va_runV (As := []) (rest := []) ⟨hx, hb, hml, hown, hts⟩ (c_X8_thrown l g cy H.size ma r9.1 r9.2.1 r9.2.2.1 r9.2.2.2.1 r9.2.2.2.2.1 r9.2.2.2.2.2.1 r9.2.2.2.2.2.2.1 r9.2.2.2.2.2.2.2 σ n fl tx ln) ⟨cB 0 hts wd8_2 wd1_5 wd7_23 rfl rfl (by decide +kernel) ⟨Nat.le_of_ble_eq_true rfl, Nat.le_of_ble_eq_true rfl⟩, hts _ wd8_0, hts _ wd8_1⟩ (pvS (wc := (mQ cy ma r9 σ n fl tx ln)) hK hP hD hS hA hX 6 rfl rfl) rfl rfl hl.1 rfl (lv_room (Nat.le_of_ble_eq_true rfl)) dL_law_440 ⟨by show _ ≤ 601024; omega, by show _ ≤ 7293033; omega⟩) ?_
  obtain ⟨hP, hD⟩ := sw_PD (L := []) (M := ([aJ cy out 1 u.1] ++ fQ cy x a tr s0 s1 pa u.2 σ n fl tx ln)) (T := (mQ cy ma r9 σ n fl tx ln)) hP hD
  have hP : va_P g vwCl ((mQ cy ma r9 σ n fl tx ln) ++ ([aJ cy out 1 u.1] ++ fQ cy x a tr s0 s1 pa u.2 σ n fl tx ln)) H := hP
  have hD : va_D A ((mQ cy ma r9 σ n fl tx ln) ++ ([aJ cy out 1 u.1] ++ fQ cy x a tr s0 s1 pa u.2 σ n fl tx ln)) := hD
  refine ti (show nI r9.2.2.2.2.2.2.2 = nI (rkm 1 2 0 (fSig σ (xs (i + 1)) (xs (i + 2)))) from congrArg nI hr9.1) ?_
  show W _ _ _ _ _ _ _ _ _ _ _ _ _ _ _ (F0 mX 443 ls [.int (nI (rkm 1 2 0 (fSig σ (xs (i + 1)) (xs (i + 2)))))])
  refine lv_iload hx hb dL_law_443 (lv_at hl 1 rfl) ?_
  refine lv_icmp_eq (tgt := 450) hx hb dL_law_445 (by decide) (fun c_445 => ?_) (fun c_445 => ?_)
  · have c_445 := (nc_eq9 (by omega) (by omega) c_445)
    refine lv_iload hx hb dL_law_450 (lv_at hl 1 rfl) ?_
    refine lv_if_ne (tgt := 467) hx hb dL_law_452 (by decide) (fun c_452 => ?_) (fun c_452 => ?_)
    · have c_452 := (nz_ne c_452 (by omega))
      refine lv_goto (tgt := 1691) hx hb dL_law_467 (by decide) ?_
      exact kk u.2 (r9) σ Hh n K fl tx ln u.1 H locs ls (fI_mono hu.2 (by (try split) <;> omega) (by omega)) (mI_mono hr9.2 (by (try split) <;> omega) (by omega)) hP hD hS (lv_sub hl [2, 3, 4, 5, 6] rfl)
    · have c_452 := (nz_eq c_452 (by omega))
      have c_452 : rkm 1 2 0 (fSig σ (xs (i + 1)) (xs (i + 2))) = 0 := c_452
      have hz9 : fSig σ (xs (i + 1)) (xs (i + 2)) = 0 := rkm_z (by unfold fSig rkm; (repeat' split) <;> omega) c_452
      refine lv_aload_n hx hb dL_law_455 rfl (lv_at hl 5 rfl) ?_
      refine lv_iconst (v := (nI 0)) hx hb dL_law_456 (by decide) ?_
      refine va_lald hx hb hK hP 9 3 rfl rfl (vp_in_nI (n := 0) (by omega) (by omega)) dL_law_457 ?_
      refine tl (show u.1 (nI 0).toNatClampNeg = ((nI (nsg σ (xs (i + 1)).toNatClampNeg (xs (i + 2)).toNatClampNeg)) : Int32).toInt64 from by rw [nI_clamp (by omega)]; exact hu.1 hz9) ?_
      refine lv_iload hx hb dL_law_458 (lv_at hl 0 rfl) ?_
      refine ti (show (nI (if fSig σ (xs (i + 1)) (xs (i + 2)) = 0 then nsg σ (xs (i + 1)).toNatClampNeg (xs (i + 2)).toNatClampNeg else 0)) = (nI (nsg σ (xs (i + 1)).toNatClampNeg (xs (i + 2)).toNatClampNeg)) from (by rw [if_pos hz9])) ?_
      refine lv_i2l (v := (nI (nsg σ (xs (i + 1)).toNatClampNeg (xs (i + 2)).toNatClampNeg)).toInt64) hx hb dL_law_460 rfl ?_
      refine W.lcmp hx hb dL_law_461 ?_
      refine lv_if_eq (tgt := 467) hx hb dL_law_462 (by decide) (fun c_462 => ?_) (fun c_462 => ?_)
      · have c_462 := lc_eq c_462
        refine lv_goto (tgt := 1691) hx hb dL_law_467 (by decide) ?_
        exact kk u.2 (r9) σ Hh n K fl tx ln u.1 H locs ls (fI_mono hu.2 (by (try split) <;> omega) (by omega)) (mI_mono hr9.2 (by (try split) <;> omega) (by omega)) hP hD hS (lv_sub hl [2, 3, 4, 5, 6] rfl)
      · have c_462 := lc_ne c_462
        exact absurd rfl c_462
  · have c_445 := (nc_ne9 (by omega) (by omega) c_445)
    exact absurd rfl c_445
set_option maxHeartbeats 4000000 in
set_option maxRecDepth 100000 in
theorem lw_purse {pX : Program} {l : Launch} {eX : Env} {s : State} {mX : MethodId} {below : List Frame} {meth : Method} {cX : Code} {b L : Nat} {xs : Nat → Int32} {QX : State → Prop} {A : Nat → Prop} (hfl : l.stackTraces = false) (g : va_G) (cy : Nat → ClassId) (hx : pX.tables.exec = Jvm.exec) (hb : cX.code = cL_law) (hml : cX.maxLocals = 7) (hown : s.vm.findClass RL = some mX.cls) (hts : ∀ w ∈ wsL_law, w.before #[Value.ref b] s = true) (hA : ∀ q : Nat, s.heap.size ≤ q → A q) (hK : va_K g vwCl (Ty cy) s) (hX : Cx A s s.heap) (hY : Cy s) (hXs : va_X b L xs s s.heap) (hbl : b < s.heap.size) (hbA : ¬ A b) (hL : L ≤ 3072)
    {x a tr s0 s1 ma : Nat → Nat} {pa : Nat → Nat → Nat} {out i bd cells slots : Nat} {q : Sc} {r : Mc} {σ : Nat → Nat} {Hh : Nat → Nat → Nat} {n : Nat} {K : Nat → Nat → Nat} {fl : Nat → Bool} {tx : Nat → Nat} {ln : Nat} {f : Nat → Int64} {H : Heap} {locs : List Loc} {ls : Array Slot} (hi : i + 6 ≤ L) (hbd1 : 11880 ≤ bd) (hbd2 : bd ≤ 63000) (hc9 : cells ≤ 10000) (hs9 : slots ≤ 100000) (hI : fI bd q σ Hh n K fl tx ln) (hM : mI bd r σ Hh n K fl tx ln) (hP : va_P g vwCl (mQ cy ma r σ n fl tx ln ++ ([aJ cy out 1 f] ++ fQ cy x a tr s0 s1 pa q σ n fl tx ln)) H) (hD : va_D A (mQ cy ma r σ n fl tx ln ++ ([aJ cy out 1 f] ++ fQ cy x a tr s0 s1 pa q σ n fl tx ln))) (hS : va_S A s.heap H locs) (hl : lv_has ls 7 [(0, .ref b), (1, .ref (x 0)), (2, .ref (ma 0)), (3, .ref out), (4, .int (nI i))])
    (kk : ∀ (q : Sc) (r : Mc) (σ : Nat → Nat) (Hh : Nat → Nat → Nat) (n : Nat) (K : Nat → Nat → Nat) (fl : Nat → Bool) (tx : Nat → Nat) (ln : Nat) (f : Nat → Int64) (H : Heap) (locs : List Loc) (ls : Array Slot), fI (bd + 99) q σ Hh n K fl tx ln → mI (bd + 99) r σ Hh n K fl tx ln → va_P g vwCl (mQ cy ma r σ n fl tx ln ++ ([aJ cy out 1 f] ++ fQ cy x a tr s0 s1 pa q σ n fl tx ln)) H → va_D A (mQ cy ma r σ n fl tx ln ++ ([aJ cy out 1 f] ++ fQ cy x a tr s0 s1 pa q σ n fl tx ln)) → va_S A s.heap H locs → lv_has ls 7 [(0, .ref b), (1, .ref (x 0)), (2, .ref (ma 0)), (3, .ref out), (4, .int (nI i))] → W pX l eX room_1 s mX #[Value.ref b] below meth cX H locs (cells + 1) (slots + 6) QX (F0 mX 1691 ls [])) :
    W pX l eX room_1 s mX #[Value.ref b] below meth cX H locs cells slots QX (F0 mX 470 ls []) := by
  have hl : lv_has ls 7 [(0, .ref b), (1, .ref (x 0)), (2, .ref (ma 0)), (3, .ref out), (4, .int (nI i))] := hl
  refine lv_aload_n hx hb dL_law_470 rfl (lv_at hl 1 rfl) ?_
  refine lv_aload_n hx hb dL_law_471 rfl (lv_at hl 0 rfl) ?_
  refine lv_iload hx hb dL_law_472 (lv_at hl 4 rfl) ?_
  refine lv_iconst (v := (nI 1)) hx hb dL_law_474 (by decide) ?_
  refine lv_iadd hx hb dL_law_475 ?_
  refine ti (nI_add i 1) ?_
  refine va_sld hx hb hXs hbl hbA hS (vp_in_nI (n := (i + 1)) (by omega) (by omega)) dL_law_476 ?_
  refine ti (show xs (nI (i + 1)).toNatClampNeg = xs (i + 1) from by rw [nI_clamp (by omega)]) ?_
  refine lv_aload_n hx hb dL_law_477 rfl (lv_at hl 3 rfl) ?_
  refine wr_callS (pre := mQ cy ma r σ n fl tx ln) (wc := ([aJ cy out 1 f] ++ fQ cy x a tr s0 s1 pa q σ n fl tx ln)) (vx_runSW (hh := [(0, 9, 12, 28)]) (As := [.ref (x 0), .int (xs (i + 1)), .ref out]) (rest := []) ⟨hx, hb, hml, hown, hts⟩ (c_L_purse l hfl g cy out f x a tr s0 s1 pa H.size bd q σ Hh n K fl tx ln (xs (i + 1)) hI ) (vx_cwSW 3 hts (hl_in wd26_14 wd6_9 wd26_12 wd26_13) rfl rfl rfl (by decide +kernel) ⟨Nat.le_of_ble_eq_true rfl, Nat.le_of_ble_eq_true rfl⟩) (ps2 hK hP hD hS hA hX hY _ nd_suffix at_suffix) rfl rfl hl.1 rfl (lv_room (Nat.le_of_ble_eq_true rfl)) dL_law_478 ⟨by show _ ≤ 601024; omega, by show _ ≤ 7293033; omega⟩) hP hD hS hA (fun _ => congrArg (fun z => out :: z) fQ_ad) (fun u H locs hu hP hD hS => ?_)
  have hP : va_P g vwCl (mQ cy ma r σ n fl tx ln ++ ([aJ cy out 1 u.1] ++ fQ cy x a tr s0 s1 pa u.2 σ n fl tx ln)) H := hP
  have hD : va_D A (mQ cy ma r σ n fl tx ln ++ ([aJ cy out 1 u.1] ++ fQ cy x a tr s0 s1 pa u.2 σ n fl tx ln)) := hD
  have hrk9 : rkm 1 0 0 (fPur (xs (i + 1))) < 10 := by unfold rkm; (repeat' split) <;> omega
  show W _ _ _ _ _ _ _ _ _ _ _ _ _ _ _ (F0 mX 481 ls [.int (nI (rkm 1 0 0 (fPur (xs (i + 1)))))])
  refine lv_istore (lv' := [(5, .int (nI (rkm 1 0 0 (fPur (xs (i + 1)))))), (0, .ref b), (1, .ref (x 0)), (2, .ref (ma 0)), (3, .ref out), (4, .int (nI i))]) hx hb dL_law_481 hl (by decide) rfl (fun ls hl => ?_)
  refine lv_aload_n hx hb dL_law_483 rfl (lv_at hl 3 rfl) ?_
  refine lv_aload_n hx hb dL_law_484 rfl (lv_at hl 1 rfl) ?_
  refine lv_iload hx hb dL_law_485 (lv_at hl 5 rfl) ?_
  refine lv_iconst (v := (nI 1)) hx hb dL_law_487 (by decide) ?_
  refine lv_iadd hx hb dL_law_488 ?_
  refine ti (nI_add i 1) ?_
  refine va_sld hx hb hXs hbl hbA hS (vp_in_nI (n := (i + 1)) (by omega) (by omega)) dL_law_489 ?_
  refine ti (show xs (nI (i + 1)).toNatClampNeg = xs (i + 1) from by rw [nI_clamp (by omega)]) ?_
  obtain ⟨hP, hD⟩ := sw_PD (L := []) (M := mQ cy ma r σ n fl tx ln) (T := ([aJ cy out 1 u.1] ++ fQ cy x a tr s0 s1 pa u.2 σ n fl tx ln)) hP hD
  have hP : va_P g vwCl (([aJ cy out 1 u.1] ++ fQ cy x a tr s0 s1 pa u.2 σ n fl tx ln) ++ mQ cy ma r σ n fl tx ln) H := hP
  have hD : va_D A (([aJ cy out 1 u.1] ++ fQ cy x a tr s0 s1 pa u.2 σ n fl tx ln) ++ mQ cy ma r σ n fl tx ln) := hD
  refine wr_callS (pre := ([aJ cy out 1 u.1] ++ fQ cy x a tr s0 s1 pa u.2 σ n fl tx ln)) (wc := mQ cy ma r σ n fl tx ln) (va_runV (As := [.int (xs (i + 1))]) (rest := []) ⟨hx, hb, hml, hown, hts⟩ (c_X8_purse l g cy ma H.size bd r σ Hh n K fl tx ln (xs (i + 1)) hM ) ⟨cB 1 hts wd27_0 wd1_5 wd26_21 rfl rfl (by decide +kernel) ⟨Nat.le_of_ble_eq_true rfl, Nat.le_of_ble_eq_true rfl⟩, hts _ wd26_22, hts _ wd26_23⟩ (pvS hK hP hD hS hA hX 6 rfl rfl) rfl rfl hl.1 rfl (lv_room (Nat.le_of_ble_eq_true rfl)) dL_law_490 ⟨by show _ ≤ 601024; omega, by show _ ≤ 7293033; omega⟩) hP hD hS hA (fun _ => mQ_ad) (fun r9 H locs hr9 hP hD hS => ?_)
  have hP : va_P g vwCl (([aJ cy out 1 u.1] ++ fQ cy x a tr s0 s1 pa u.2 σ n fl tx ln) ++ (mQ cy ma r9 σ n fl tx ln)) H := hP
  have hD : va_D A (([aJ cy out 1 u.1] ++ fQ cy x a tr s0 s1 pa u.2 σ n fl tx ln) ++ (mQ cy ma r9 σ n fl tx ln)) := hD
  obtain ⟨hP, hD⟩ := sw_PD (L := []) (M := ([aJ cy out 1 u.1] ++ fQ cy x a tr s0 s1 pa u.2 σ n fl tx ln)) (T := (mQ cy ma r9 σ n fl tx ln)) hP hD
  have hP : va_P g vwCl ((mQ cy ma r9 σ n fl tx ln) ++ ([aJ cy out 1 u.1] ++ fQ cy x a tr s0 s1 pa u.2 σ n fl tx ln)) H := hP
  have hD : va_D A ((mQ cy ma r9 σ n fl tx ln) ++ ([aJ cy out 1 u.1] ++ fQ cy x a tr s0 s1 pa u.2 σ n fl tx ln)) := hD
  show W _ _ _ _ _ _ _ _ _ _ _ _ _ _ _ (F0 mX 493 ls [.int (nI (if fPur (xs (i + 1)) = 0 then σ (8 + (xs (i + 1)).toNatClampNeg) else 0))])
  refine lv_istore (lv' := [(6, .int (nI (if fPur (xs (i + 1)) = 0 then σ (8 + (xs (i + 1)).toNatClampNeg) else 0))), (5, .int (nI (rkm 1 0 0 (fPur (xs (i + 1)))))), (0, .ref b), (1, .ref (x 0)), (2, .ref (ma 0)), (3, .ref out), (4, .int (nI i))]) hx hb dL_law_493 hl (by decide) rfl (fun ls hl => ?_)
  refine lv_aload_n hx hb dL_law_495 rfl (lv_at hl 4 rfl) ?_
  obtain ⟨hP, hD⟩ := sw_PD (L := []) (M := (mQ cy ma r9 σ n fl tx ln)) (T := ([aJ cy out 1 u.1] ++ fQ cy x a tr s0 s1 pa u.2 σ n fl tx ln)) hP hD
  have hP : va_P g vwCl (([aJ cy out 1 u.1] ++ fQ cy x a tr s0 s1 pa u.2 σ n fl tx ln) ++ (mQ cy ma r9 σ n fl tx ln)) H := hP
  have hD : va_D A (([aJ cy out 1 u.1] ++ fQ cy x a tr s0 s1 pa u.2 σ n fl tx ln) ++ (mQ cy ma r9 σ n fl tx ln)) := hD
  refine rd_call (va_runV (As := []) (rest := []) ⟨hx, hb, hml, hown, hts⟩ (c_X8_thrown l g cy H.size ma r9.1 r9.2.1 r9.2.2.1 r9.2.2.2.1 r9.2.2.2.2.1 r9.2.2.2.2.2.1 r9.2.2.2.2.2.2.1 r9.2.2.2.2.2.2.2 σ n fl tx ln) ⟨cB 0 hts wd8_2 wd1_5 wd7_23 rfl rfl (by decide +kernel) ⟨Nat.le_of_ble_eq_true rfl, Nat.le_of_ble_eq_true rfl⟩, hts _ wd8_0, hts _ wd8_1⟩ (pvS (wc := (mQ cy ma r9 σ n fl tx ln)) hK hP hD hS hA hX 6 rfl rfl) rfl rfl hl.1 rfl (lv_room (Nat.le_of_ble_eq_true rfl)) dL_law_496 ⟨by show _ ≤ 601024; omega, by show _ ≤ 7293033; omega⟩) ?_
  obtain ⟨hP, hD⟩ := sw_PD (L := []) (M := ([aJ cy out 1 u.1] ++ fQ cy x a tr s0 s1 pa u.2 σ n fl tx ln)) (T := (mQ cy ma r9 σ n fl tx ln)) hP hD
  have hP : va_P g vwCl ((mQ cy ma r9 σ n fl tx ln) ++ ([aJ cy out 1 u.1] ++ fQ cy x a tr s0 s1 pa u.2 σ n fl tx ln)) H := hP
  have hD : va_D A ((mQ cy ma r9 σ n fl tx ln) ++ ([aJ cy out 1 u.1] ++ fQ cy x a tr s0 s1 pa u.2 σ n fl tx ln)) := hD
  refine ti (show nI r9.2.2.2.2.2.2.2 = nI (rkm 1 0 0 (fPur (xs (i + 1)))) from congrArg nI hr9.1) ?_
  show W _ _ _ _ _ _ _ _ _ _ _ _ _ _ _ (F0 mX 499 ls [.int (nI (rkm 1 0 0 (fPur (xs (i + 1)))))])
  refine lv_iload hx hb dL_law_499 (lv_at hl 1 rfl) ?_
  refine lv_icmp_eq (tgt := 506) hx hb dL_law_501 (by decide) (fun c_501 => ?_) (fun c_501 => ?_)
  · have c_501 := (nc_eq9 (by omega) (by omega) c_501)
    refine lv_iload hx hb dL_law_506 (lv_at hl 1 rfl) ?_
    refine lv_if_ne (tgt := 523) hx hb dL_law_508 (by decide) (fun c_508 => ?_) (fun c_508 => ?_)
    · have c_508 := (nz_ne c_508 (by omega))
      refine lv_goto (tgt := 1691) hx hb dL_law_523 (by decide) ?_
      exact kk u.2 (r9) σ Hh n K fl tx ln u.1 H locs ls (fI_mono hu.2 (by (try split) <;> omega) (by omega)) (mI_mono hr9.2 (by (try split) <;> omega) (by omega)) hP hD hS (lv_sub hl [2, 3, 4, 5, 6] rfl)
    · have c_508 := (nz_eq c_508 (by omega))
      have c_508 : rkm 1 0 0 (fPur (xs (i + 1))) = 0 := c_508
      have hz9 : fPur (xs (i + 1)) = 0 := rkm_z (by unfold fPur rkm; (repeat' split) <;> omega) c_508
      refine lv_aload_n hx hb dL_law_511 rfl (lv_at hl 5 rfl) ?_
      refine lv_iconst (v := (nI 0)) hx hb dL_law_512 (by decide) ?_
      refine va_lald hx hb hK hP 9 3 rfl rfl (vp_in_nI (n := 0) (by omega) (by omega)) dL_law_513 ?_
      refine tl (show u.1 (nI 0).toNatClampNeg = ((nI (σ (8 + (xs (i + 1)).toNatClampNeg))) : Int32).toInt64 from by rw [nI_clamp (by omega)]; exact hu.1 hz9) ?_
      refine lv_iload hx hb dL_law_514 (lv_at hl 0 rfl) ?_
      refine ti (show (nI (if fPur (xs (i + 1)) = 0 then σ (8 + (xs (i + 1)).toNatClampNeg) else 0)) = (nI (σ (8 + (xs (i + 1)).toNatClampNeg))) from (by rw [if_pos hz9])) ?_
      refine lv_i2l (v := (nI (σ (8 + (xs (i + 1)).toNatClampNeg))).toInt64) hx hb dL_law_516 rfl ?_
      refine W.lcmp hx hb dL_law_517 ?_
      refine lv_if_eq (tgt := 523) hx hb dL_law_518 (by decide) (fun c_518 => ?_) (fun c_518 => ?_)
      · have c_518 := lc_eq c_518
        refine lv_goto (tgt := 1691) hx hb dL_law_523 (by decide) ?_
        exact kk u.2 (r9) σ Hh n K fl tx ln u.1 H locs ls (fI_mono hu.2 (by (try split) <;> omega) (by omega)) (mI_mono hr9.2 (by (try split) <;> omega) (by omega)) hP hD hS (lv_sub hl [2, 3, 4, 5, 6] rfl)
      · have c_518 := lc_ne c_518
        exact absurd rfl c_518
  · have c_501 := (nc_ne9 (by omega) (by omega) c_501)
    exact absurd rfl c_501
set_option maxHeartbeats 4000000 in
set_option maxRecDepth 100000 in
theorem lw_apart {pX : Program} {l : Launch} {eX : Env} {s : State} {mX : MethodId} {below : List Frame} {meth : Method} {cX : Code} {b L : Nat} {xs : Nat → Int32} {QX : State → Prop} {A : Nat → Prop} (hfl : l.stackTraces = false) (g : va_G) (cy : Nat → ClassId) (hx : pX.tables.exec = Jvm.exec) (hb : cX.code = cL_law) (hml : cX.maxLocals = 7) (hown : s.vm.findClass RL = some mX.cls) (hts : ∀ w ∈ wsL_law, w.before #[Value.ref b] s = true) (hA : ∀ q : Nat, s.heap.size ≤ q → A q) (hK : va_K g vwCl (Ty cy) s) (hX : Cx A s s.heap) (hY : Cy s) (hXs : va_X b L xs s s.heap) (hbl : b < s.heap.size) (hbA : ¬ A b) (hL : L ≤ 3072)
    {x a tr s0 s1 ma : Nat → Nat} {pa : Nat → Nat → Nat} {out i bd cells slots : Nat} {q : Sc} {r : Mc} {σ : Nat → Nat} {Hh : Nat → Nat → Nat} {n : Nat} {K : Nat → Nat → Nat} {fl : Nat → Bool} {tx : Nat → Nat} {ln : Nat} {f : Nat → Int64} {H : Heap} {locs : List Loc} {ls : Array Slot} (hi : i + 6 ≤ L) (hbd1 : 11880 ≤ bd) (hbd2 : bd ≤ 63000) (hc9 : cells ≤ 10000) (hs9 : slots ≤ 100000) (hI : fI bd q σ Hh n K fl tx ln) (hM : mI bd r σ Hh n K fl tx ln) (hP : va_P g vwCl (mQ cy ma r σ n fl tx ln ++ ([aJ cy out 1 f] ++ fQ cy x a tr s0 s1 pa q σ n fl tx ln)) H) (hD : va_D A (mQ cy ma r σ n fl tx ln ++ ([aJ cy out 1 f] ++ fQ cy x a tr s0 s1 pa q σ n fl tx ln))) (hS : va_S A s.heap H locs) (hl : lv_has ls 7 [(0, .ref b), (1, .ref (x 0)), (2, .ref (ma 0)), (3, .ref out), (4, .int (nI i))])
    (kk : ∀ (q : Sc) (r : Mc) (σ : Nat → Nat) (Hh : Nat → Nat → Nat) (n : Nat) (K : Nat → Nat → Nat) (fl : Nat → Bool) (tx : Nat → Nat) (ln : Nat) (f : Nat → Int64) (H : Heap) (locs : List Loc) (ls : Array Slot), fI (bd + 99) q σ Hh n K fl tx ln → mI (bd + 99) r σ Hh n K fl tx ln → va_P g vwCl (mQ cy ma r σ n fl tx ln ++ ([aJ cy out 1 f] ++ fQ cy x a tr s0 s1 pa q σ n fl tx ln)) H → va_D A (mQ cy ma r σ n fl tx ln ++ ([aJ cy out 1 f] ++ fQ cy x a tr s0 s1 pa q σ n fl tx ln)) → va_S A s.heap H locs → lv_has ls 7 [(0, .ref b), (1, .ref (x 0)), (2, .ref (ma 0)), (3, .ref out), (4, .int (nI i))] → W pX l eX room_1 s mX #[Value.ref b] below meth cX H locs (cells + 1) (slots + 6) QX (F0 mX 1691 ls [])) :
    W pX l eX room_1 s mX #[Value.ref b] below meth cX H locs cells slots QX (F0 mX 526 ls []) := by
  have hl : lv_has ls 7 [(0, .ref b), (1, .ref (x 0)), (2, .ref (ma 0)), (3, .ref out), (4, .int (nI i))] := hl
  refine lv_aload_n hx hb dL_law_526 rfl (lv_at hl 1 rfl) ?_
  refine lv_aload_n hx hb dL_law_527 rfl (lv_at hl 0 rfl) ?_
  refine lv_iload hx hb dL_law_528 (lv_at hl 4 rfl) ?_
  refine lv_iconst (v := (nI 1)) hx hb dL_law_530 (by decide) ?_
  refine lv_iadd hx hb dL_law_531 ?_
  refine ti (nI_add i 1) ?_
  refine va_sld hx hb hXs hbl hbA hS (vp_in_nI (n := (i + 1)) (by omega) (by omega)) dL_law_532 ?_
  refine ti (show xs (nI (i + 1)).toNatClampNeg = xs (i + 1) from by rw [nI_clamp (by omega)]) ?_
  refine lv_aload_n hx hb dL_law_533 rfl (lv_at hl 0 rfl) ?_
  refine lv_iload hx hb dL_law_534 (lv_at hl 4 rfl) ?_
  refine lv_iconst (v := (nI 2)) hx hb dL_law_536 (by decide) ?_
  refine lv_iadd hx hb dL_law_537 ?_
  refine ti (nI_add i 2) ?_
  refine va_sld hx hb hXs hbl hbA hS (vp_in_nI (n := (i + 2)) (by omega) (by omega)) dL_law_538 ?_
  refine ti (show xs (nI (i + 2)).toNatClampNeg = xs (i + 2) from by rw [nI_clamp (by omega)]) ?_
  refine lv_aload_n hx hb dL_law_539 rfl (lv_at hl 0 rfl) ?_
  refine lv_iload hx hb dL_law_540 (lv_at hl 4 rfl) ?_
  refine lv_iconst (v := (nI 3)) hx hb dL_law_542 (by decide) ?_
  refine lv_iadd hx hb dL_law_543 ?_
  refine ti (nI_add i 3) ?_
  refine va_sld hx hb hXs hbl hbA hS (vp_in_nI (n := (i + 3)) (by omega) (by omega)) dL_law_544 ?_
  refine ti (show xs (nI (i + 3)).toNatClampNeg = xs (i + 3) from by rw [nI_clamp (by omega)]) ?_
  refine lv_aload_n hx hb dL_law_545 rfl (lv_at hl 3 rfl) ?_
  refine wr_callS (pre := mQ cy ma r σ n fl tx ln) (wc := ([aJ cy out 1 f] ++ fQ cy x a tr s0 s1 pa q σ n fl tx ln)) (vx_runSW (hh := [(0, 12, 15, 28), (0, 12, 19, 13)]) (As := [.ref (x 0), .int (xs (i + 1)), .int (xs (i + 2)), .int (xs (i + 3)), .ref out]) (rest := []) ⟨hx, hb, hml, hown, hts⟩ (c_L_apart l hfl g cy out f x a tr s0 s1 pa H.size bd q σ Hh n K fl tx ln (xs (i + 1)) (xs (i + 2)) (xs (i + 3)) hI ) (vx_cwSW 5 hts (hl_in wd27_7 wd6_9 wd27_5 wd27_6) rfl rfl rfl (by decide +kernel) ⟨Nat.le_of_ble_eq_true rfl, Nat.le_of_ble_eq_true rfl⟩) (ps2 hK hP hD hS hA hX hY _ nd_suffix at_suffix) rfl rfl hl.1 rfl (lv_room (Nat.le_of_ble_eq_true rfl)) dL_law_546 ⟨by show _ ≤ 601024; omega, by show _ ≤ 7293033; omega⟩) hP hD hS hA (fun _ => congrArg (fun z => out :: z) fQ_ad) (fun u H locs hu hP hD hS => ?_)
  have hP : va_P g vwCl (mQ cy ma r σ n fl tx ln ++ ([aJ cy out 1 u.1] ++ fQ cy x a tr s0 s1 pa u.2 σ n fl tx ln)) H := hP
  have hD : va_D A (mQ cy ma r σ n fl tx ln ++ ([aJ cy out 1 u.1] ++ fQ cy x a tr s0 s1 pa u.2 σ n fl tx ln)) := hD
  have hrk9 : rkm 1 2 0 (fApa (xs (i + 1)) (xs (i + 2)) (xs (i + 3))) < 10 := by unfold rkm; (repeat' split) <;> omega
  show W _ _ _ _ _ _ _ _ _ _ _ _ _ _ _ (F0 mX 549 ls [.int (nI (rkm 1 2 0 (fApa (xs (i + 1)) (xs (i + 2)) (xs (i + 3)))))])
  refine lv_istore (lv' := [(5, .int (nI (rkm 1 2 0 (fApa (xs (i + 1)) (xs (i + 2)) (xs (i + 3)))))), (0, .ref b), (1, .ref (x 0)), (2, .ref (ma 0)), (3, .ref out), (4, .int (nI i))]) hx hb dL_law_549 hl (by decide) rfl (fun ls hl => ?_)
  refine lv_aload_n hx hb dL_law_551 rfl (lv_at hl 3 rfl) ?_
  refine lv_aload_n hx hb dL_law_552 rfl (lv_at hl 1 rfl) ?_
  refine lv_iload hx hb dL_law_553 (lv_at hl 5 rfl) ?_
  refine lv_iconst (v := (nI 1)) hx hb dL_law_555 (by decide) ?_
  refine lv_iadd hx hb dL_law_556 ?_
  refine ti (nI_add i 1) ?_
  refine va_sld hx hb hXs hbl hbA hS (vp_in_nI (n := (i + 1)) (by omega) (by omega)) dL_law_557 ?_
  refine ti (show xs (nI (i + 1)).toNatClampNeg = xs (i + 1) from by rw [nI_clamp (by omega)]) ?_
  refine lv_aload_n hx hb dL_law_558 rfl (lv_at hl 1 rfl) ?_
  refine lv_iload hx hb dL_law_559 (lv_at hl 5 rfl) ?_
  refine lv_iconst (v := (nI 2)) hx hb dL_law_561 (by decide) ?_
  refine lv_iadd hx hb dL_law_562 ?_
  refine ti (nI_add i 2) ?_
  refine va_sld hx hb hXs hbl hbA hS (vp_in_nI (n := (i + 2)) (by omega) (by omega)) dL_law_563 ?_
  refine ti (show xs (nI (i + 2)).toNatClampNeg = xs (i + 2) from by rw [nI_clamp (by omega)]) ?_
  refine lv_aload_n hx hb dL_law_564 rfl (lv_at hl 1 rfl) ?_
  refine lv_iload hx hb dL_law_565 (lv_at hl 5 rfl) ?_
  refine lv_iconst (v := (nI 3)) hx hb dL_law_567 (by decide) ?_
  refine lv_iadd hx hb dL_law_568 ?_
  refine ti (nI_add i 3) ?_
  refine va_sld hx hb hXs hbl hbA hS (vp_in_nI (n := (i + 3)) (by omega) (by omega)) dL_law_569 ?_
  refine ti (show xs (nI (i + 3)).toNatClampNeg = xs (i + 3) from by rw [nI_clamp (by omega)]) ?_
  obtain ⟨hP, hD⟩ := sw_PD (L := []) (M := mQ cy ma r σ n fl tx ln) (T := ([aJ cy out 1 u.1] ++ fQ cy x a tr s0 s1 pa u.2 σ n fl tx ln)) hP hD
  have hP : va_P g vwCl (([aJ cy out 1 u.1] ++ fQ cy x a tr s0 s1 pa u.2 σ n fl tx ln) ++ mQ cy ma r σ n fl tx ln) H := hP
  have hD : va_D A (([aJ cy out 1 u.1] ++ fQ cy x a tr s0 s1 pa u.2 σ n fl tx ln) ++ mQ cy ma r σ n fl tx ln) := hD
  refine wr_callS (pre := ([aJ cy out 1 u.1] ++ fQ cy x a tr s0 s1 pa u.2 σ n fl tx ln)) (wc := mQ cy ma r σ n fl tx ln) (va_runV (As := [.int (xs (i + 1)), .int (xs (i + 2)), .int (xs (i + 3))]) (rest := []) ⟨hx, hb, hml, hown, hts⟩ (c_X8_apart l g cy ma H.size bd r σ Hh n K fl tx ln (xs (i + 1)) (xs (i + 2)) (xs (i + 3)) hM ) ⟨cB 3 hts wd28_12 wd1_5 wd28_9 rfl rfl (by decide +kernel) ⟨Nat.le_of_ble_eq_true rfl, Nat.le_of_ble_eq_true rfl⟩, hts _ wd28_10, hts _ wd28_11⟩ (pvS hK hP hD hS hA hX 6 rfl rfl) rfl rfl hl.1 rfl (lv_room (Nat.le_of_ble_eq_true rfl)) dL_law_570 ⟨by show _ ≤ 601024; omega, by show _ ≤ 7293033; omega⟩) hP hD hS hA (fun _ => mQ_ad) (fun r9 H locs hr9 hP hD hS => ?_)
  have hP : va_P g vwCl (([aJ cy out 1 u.1] ++ fQ cy x a tr s0 s1 pa u.2 σ n fl tx ln) ++ (mQ cy ma r9 σ n fl tx ln)) H := hP
  have hD : va_D A (([aJ cy out 1 u.1] ++ fQ cy x a tr s0 s1 pa u.2 σ n fl tx ln) ++ (mQ cy ma r9 σ n fl tx ln)) := hD
  obtain ⟨hP, hD⟩ := sw_PD (L := []) (M := ([aJ cy out 1 u.1] ++ fQ cy x a tr s0 s1 pa u.2 σ n fl tx ln)) (T := (mQ cy ma r9 σ n fl tx ln)) hP hD
  have hP : va_P g vwCl ((mQ cy ma r9 σ n fl tx ln) ++ ([aJ cy out 1 u.1] ++ fQ cy x a tr s0 s1 pa u.2 σ n fl tx ln)) H := hP
  have hD : va_D A ((mQ cy ma r9 σ n fl tx ln) ++ ([aJ cy out 1 u.1] ++ fQ cy x a tr s0 s1 pa u.2 σ n fl tx ln)) := hD
  show W _ _ _ _ _ _ _ _ _ _ _ _ _ _ _ (F0 mX 573 ls [.int (if fApa (xs (i + 1)) (xs (i + 2)) (xs (i + 3)) = 0 then wv σ (12 * (xs (i + 1)).toNatClampNeg + (xs (i + 2)).toNatClampNeg) else 0)])
  refine lv_istore (lv' := [(6, .int (if fApa (xs (i + 1)) (xs (i + 2)) (xs (i + 3)) = 0 then wv σ (12 * (xs (i + 1)).toNatClampNeg + (xs (i + 2)).toNatClampNeg) else 0)), (5, .int (nI (rkm 1 2 0 (fApa (xs (i + 1)) (xs (i + 2)) (xs (i + 3)))))), (0, .ref b), (1, .ref (x 0)), (2, .ref (ma 0)), (3, .ref out), (4, .int (nI i))]) hx hb dL_law_573 hl (by decide) rfl (fun ls hl => ?_)
  refine lv_aload_n hx hb dL_law_575 rfl (lv_at hl 4 rfl) ?_
  obtain ⟨hP, hD⟩ := sw_PD (L := []) (M := (mQ cy ma r9 σ n fl tx ln)) (T := ([aJ cy out 1 u.1] ++ fQ cy x a tr s0 s1 pa u.2 σ n fl tx ln)) hP hD
  have hP : va_P g vwCl (([aJ cy out 1 u.1] ++ fQ cy x a tr s0 s1 pa u.2 σ n fl tx ln) ++ (mQ cy ma r9 σ n fl tx ln)) H := hP
  have hD : va_D A (([aJ cy out 1 u.1] ++ fQ cy x a tr s0 s1 pa u.2 σ n fl tx ln) ++ (mQ cy ma r9 σ n fl tx ln)) := hD
  refine rd_call (va_runV (As := []) (rest := []) ⟨hx, hb, hml, hown, hts⟩ (c_X8_thrown l g cy H.size ma r9.1 r9.2.1 r9.2.2.1 r9.2.2.2.1 r9.2.2.2.2.1 r9.2.2.2.2.2.1 r9.2.2.2.2.2.2.1 r9.2.2.2.2.2.2.2 σ n fl tx ln) ⟨cB 0 hts wd8_2 wd1_5 wd7_23 rfl rfl (by decide +kernel) ⟨Nat.le_of_ble_eq_true rfl, Nat.le_of_ble_eq_true rfl⟩, hts _ wd8_0, hts _ wd8_1⟩ (pvS (wc := (mQ cy ma r9 σ n fl tx ln)) hK hP hD hS hA hX 6 rfl rfl) rfl rfl hl.1 rfl (lv_room (Nat.le_of_ble_eq_true rfl)) dL_law_576 ⟨by show _ ≤ 601024; omega, by show _ ≤ 7293033; omega⟩) ?_
  obtain ⟨hP, hD⟩ := sw_PD (L := []) (M := ([aJ cy out 1 u.1] ++ fQ cy x a tr s0 s1 pa u.2 σ n fl tx ln)) (T := (mQ cy ma r9 σ n fl tx ln)) hP hD
  have hP : va_P g vwCl ((mQ cy ma r9 σ n fl tx ln) ++ ([aJ cy out 1 u.1] ++ fQ cy x a tr s0 s1 pa u.2 σ n fl tx ln)) H := hP
  have hD : va_D A ((mQ cy ma r9 σ n fl tx ln) ++ ([aJ cy out 1 u.1] ++ fQ cy x a tr s0 s1 pa u.2 σ n fl tx ln)) := hD
  refine ti (show nI r9.2.2.2.2.2.2.2 = nI (rkm 1 2 0 (fApa (xs (i + 1)) (xs (i + 2)) (xs (i + 3)))) from congrArg nI hr9.1) ?_
  show W _ _ _ _ _ _ _ _ _ _ _ _ _ _ _ (F0 mX 579 ls [.int (nI (rkm 1 2 0 (fApa (xs (i + 1)) (xs (i + 2)) (xs (i + 3)))))])
  refine lv_iload hx hb dL_law_579 (lv_at hl 1 rfl) ?_
  refine lv_icmp_eq (tgt := 586) hx hb dL_law_581 (by decide) (fun c_581 => ?_) (fun c_581 => ?_)
  · have c_581 := (nc_eq9 (by omega) (by omega) c_581)
    refine lv_iload hx hb dL_law_586 (lv_at hl 1 rfl) ?_
    refine lv_if_ne (tgt := 603) hx hb dL_law_588 (by decide) (fun c_588 => ?_) (fun c_588 => ?_)
    · have c_588 := (nz_ne c_588 (by omega))
      refine lv_goto (tgt := 1691) hx hb dL_law_603 (by decide) ?_
      exact kk u.2 (r9) σ Hh n K fl tx ln u.1 H locs ls (fI_mono hu.2 (by (try split) <;> omega) (by omega)) (mI_mono hr9.2 (by (try split) <;> omega) (by omega)) hP hD hS (lv_sub hl [2, 3, 4, 5, 6] rfl)
    · have c_588 := (nz_eq c_588 (by omega))
      have c_588 : rkm 1 2 0 (fApa (xs (i + 1)) (xs (i + 2)) (xs (i + 3))) = 0 := c_588
      have hz9 : fApa (xs (i + 1)) (xs (i + 2)) (xs (i + 3)) = 0 := rkm_z (by unfold fApa rkm; (repeat' split) <;> omega) c_588
      refine lv_aload_n hx hb dL_law_591 rfl (lv_at hl 5 rfl) ?_
      refine lv_iconst (v := (nI 0)) hx hb dL_law_592 (by decide) ?_
      refine va_lald hx hb hK hP 9 3 rfl rfl (vp_in_nI (n := 0) (by omega) (by omega)) dL_law_593 ?_
      refine tl (show u.1 (nI 0).toNatClampNeg = ((wv σ (12 * (xs (i + 1)).toNatClampNeg + (xs (i + 2)).toNatClampNeg)) : Int32).toInt64 from by rw [nI_clamp (by omega)]; exact hu.1 hz9) ?_
      refine lv_iload hx hb dL_law_594 (lv_at hl 0 rfl) ?_
      refine ti (show (if fApa (xs (i + 1)) (xs (i + 2)) (xs (i + 3)) = 0 then wv σ (12 * (xs (i + 1)).toNatClampNeg + (xs (i + 2)).toNatClampNeg) else 0) = (wv σ (12 * (xs (i + 1)).toNatClampNeg + (xs (i + 2)).toNatClampNeg)) from (by rw [if_pos hz9])) ?_
      refine lv_i2l (v := (wv σ (12 * (xs (i + 1)).toNatClampNeg + (xs (i + 2)).toNatClampNeg)).toInt64) hx hb dL_law_596 rfl ?_
      refine W.lcmp hx hb dL_law_597 ?_
      refine lv_if_eq (tgt := 603) hx hb dL_law_598 (by decide) (fun c_598 => ?_) (fun c_598 => ?_)
      · have c_598 := lc_eq c_598
        refine lv_goto (tgt := 1691) hx hb dL_law_603 (by decide) ?_
        exact kk u.2 (r9) σ Hh n K fl tx ln u.1 H locs ls (fI_mono hu.2 (by (try split) <;> omega) (by omega)) (mI_mono hr9.2 (by (try split) <;> omega) (by omega)) hP hD hS (lv_sub hl [2, 3, 4, 5, 6] rfl)
      · have c_598 := lc_ne c_598
        exact absurd rfl c_598
  · have c_581 := (nc_ne9 (by omega) (by omega) c_581)
    exact absurd rfl c_581
set_option maxHeartbeats 4000000 in
set_option maxRecDepth 100000 in
theorem lw_lose {pX : Program} {l : Launch} {eX : Env} {s : State} {mX : MethodId} {below : List Frame} {meth : Method} {cX : Code} {b L : Nat} {xs : Nat → Int32} {QX : State → Prop} {A : Nat → Prop} (hfl : l.stackTraces = false) (g : va_G) (cy : Nat → ClassId) (hx : pX.tables.exec = Jvm.exec) (hb : cX.code = cL_law) (hml : cX.maxLocals = 7) (hown : s.vm.findClass RL = some mX.cls) (hts : ∀ w ∈ wsL_law, w.before #[Value.ref b] s = true) (hA : ∀ q : Nat, s.heap.size ≤ q → A q) (hK : va_K g vwCl (Ty cy) s) (hX : Cx A s s.heap) (hY : Cy s) (hXs : va_X b L xs s s.heap) (hbl : b < s.heap.size) (hbA : ¬ A b) (hL : L ≤ 3072)
    {x a tr s0 s1 ma : Nat → Nat} {pa : Nat → Nat → Nat} {out i bd cells slots : Nat} {q : Sc} {r : Mc} {σ : Nat → Nat} {Hh : Nat → Nat → Nat} {n : Nat} {K : Nat → Nat → Nat} {fl : Nat → Bool} {tx : Nat → Nat} {ln : Nat} {f : Nat → Int64} {H : Heap} {locs : List Loc} {ls : Array Slot} (hi : i + 6 ≤ L) (hbd1 : 11880 ≤ bd) (hbd2 : bd ≤ 63000) (hc9 : cells ≤ 10000) (hs9 : slots ≤ 100000) (hI : fI bd q σ Hh n K fl tx ln) (hM : mI bd r σ Hh n K fl tx ln) (hP : va_P g vwCl (mQ cy ma r σ n fl tx ln ++ ([aJ cy out 1 f] ++ fQ cy x a tr s0 s1 pa q σ n fl tx ln)) H) (hD : va_D A (mQ cy ma r σ n fl tx ln ++ ([aJ cy out 1 f] ++ fQ cy x a tr s0 s1 pa q σ n fl tx ln))) (hS : va_S A s.heap H locs) (hl : lv_has ls 7 [(0, .ref b), (1, .ref (x 0)), (2, .ref (ma 0)), (3, .ref out), (4, .int (nI i))])
    (kk : ∀ (q : Sc) (r : Mc) (σ : Nat → Nat) (Hh : Nat → Nat → Nat) (n : Nat) (K : Nat → Nat → Nat) (fl : Nat → Bool) (tx : Nat → Nat) (ln : Nat) (f : Nat → Int64) (H : Heap) (locs : List Loc) (ls : Array Slot), fI (bd + 99) q σ Hh n K fl tx ln → mI (bd + 99) r σ Hh n K fl tx ln → va_P g vwCl (mQ cy ma r σ n fl tx ln ++ ([aJ cy out 1 f] ++ fQ cy x a tr s0 s1 pa q σ n fl tx ln)) H → va_D A (mQ cy ma r σ n fl tx ln ++ ([aJ cy out 1 f] ++ fQ cy x a tr s0 s1 pa q σ n fl tx ln)) → va_S A s.heap H locs → lv_has ls 7 [(0, .ref b), (1, .ref (x 0)), (2, .ref (ma 0)), (3, .ref out), (4, .int (nI i))] → W pX l eX room_1 s mX #[Value.ref b] below meth cX H locs (cells + 1) (slots + 6) QX (F0 mX 1691 ls [])) :
    W pX l eX room_1 s mX #[Value.ref b] below meth cX H locs cells slots QX (F0 mX 606 ls []) := by
  have hl : lv_has ls 7 [(0, .ref b), (1, .ref (x 0)), (2, .ref (ma 0)), (3, .ref out), (4, .int (nI i))] := hl
  refine lv_aload_n hx hb dL_law_606 rfl (lv_at hl 1 rfl) ?_
  refine lv_aload_n hx hb dL_law_607 rfl (lv_at hl 0 rfl) ?_
  refine lv_iload hx hb dL_law_608 (lv_at hl 4 rfl) ?_
  refine lv_iconst (v := (nI 1)) hx hb dL_law_610 (by decide) ?_
  refine lv_iadd hx hb dL_law_611 ?_
  refine ti (nI_add i 1) ?_
  refine va_sld hx hb hXs hbl hbA hS (vp_in_nI (n := (i + 1)) (by omega) (by omega)) dL_law_612 ?_
  refine ti (show xs (nI (i + 1)).toNatClampNeg = xs (i + 1) from by rw [nI_clamp (by omega)]) ?_
  refine lv_aload_n hx hb dL_law_613 rfl (lv_at hl 0 rfl) ?_
  refine lv_iload hx hb dL_law_614 (lv_at hl 4 rfl) ?_
  refine lv_iconst (v := (nI 2)) hx hb dL_law_616 (by decide) ?_
  refine lv_iadd hx hb dL_law_617 ?_
  refine ti (nI_add i 2) ?_
  refine va_sld hx hb hXs hbl hbA hS (vp_in_nI (n := (i + 2)) (by omega) (by omega)) dL_law_618 ?_
  refine ti (show xs (nI (i + 2)).toNatClampNeg = xs (i + 2) from by rw [nI_clamp (by omega)]) ?_
  refine lv_aload_n hx hb dL_law_619 rfl (lv_at hl 0 rfl) ?_
  refine lv_iload hx hb dL_law_620 (lv_at hl 4 rfl) ?_
  refine lv_iconst (v := (nI 3)) hx hb dL_law_622 (by decide) ?_
  refine lv_iadd hx hb dL_law_623 ?_
  refine ti (nI_add i 3) ?_
  refine va_sld hx hb hXs hbl hbA hS (vp_in_nI (n := (i + 3)) (by omega) (by omega)) dL_law_624 ?_
  refine ti (show xs (nI (i + 3)).toNatClampNeg = xs (i + 3) from by rw [nI_clamp (by omega)]) ?_
  refine lv_aload_n hx hb dL_law_625 rfl (lv_at hl 0 rfl) ?_
  refine lv_iload hx hb dL_law_626 (lv_at hl 4 rfl) ?_
  refine lv_iconst (v := (nI 4)) hx hb dL_law_628 (by decide) ?_
  refine lv_iadd hx hb dL_law_629 ?_
  refine ti (nI_add i 4) ?_
  refine va_sld hx hb hXs hbl hbA hS (vp_in_nI (n := (i + 4)) (by omega) (by omega)) dL_law_630 ?_
  refine ti (show xs (nI (i + 4)).toNatClampNeg = xs (i + 4) from by rw [nI_clamp (by omega)]) ?_
  refine lv_aload_n hx hb dL_law_631 rfl (lv_at hl 3 rfl) ?_
  refine wr_callS (pre := mQ cy ma r σ n fl tx ln) (wc := ([aJ cy out 1 f] ++ fQ cy x a tr s0 s1 pa q σ n fl tx ln)) (vx_runSW (hh := [(0, 14, 17, 28), (0, 14, 21, 13), (0, 14, 25, 15)]) (As := [.ref (x 0), .int (xs (i + 1)), .int (xs (i + 2)), .int (xs (i + 3)), .int (xs (i + 4)), .ref out]) (rest := []) ⟨hx, hb, hml, hown, hts⟩ (c_L_lose l hfl g cy out f x a tr s0 s1 pa H.size bd q σ Hh n K fl tx ln (xs (i + 1)) (xs (i + 2)) (xs (i + 3)) (xs (i + 4)) hI ) (vx_cwSW 6 hts (hl_in wd28_19 wd6_9 wd28_17 wd28_18) rfl rfl rfl (by decide +kernel) ⟨Nat.le_of_ble_eq_true rfl, Nat.le_of_ble_eq_true rfl⟩) (ps2 hK hP hD hS hA hX hY _ nd_suffix at_suffix) rfl rfl hl.1 rfl (lv_room (Nat.le_of_ble_eq_true rfl)) dL_law_632 ⟨by show _ ≤ 601024; omega, by show _ ≤ 7293033; omega⟩) hP hD hS hA (fun _ => congrArg (fun z => out :: z) fQ_ad) (fun u H locs hu hP hD hS => ?_)
  have hP : va_P g vwCl (mQ cy ma r σ n fl tx ln ++ ([aJ cy out 1 u.1] ++ fQ cy x a tr s0 s1 pa u.2 (if fLose σ (xs (i + 1)) (xs (i + 2)) (xs (i + 3)) (xs (i + 4)) = 0 then loseR σ (xs (i + 1)) (xs (i + 2)) (xs (i + 3)) (xs (i + 4)) else σ) (if fLose σ (xs (i + 1)) (xs (i + 2)) (xs (i + 3)) (xs (i + 4)) = 0 then hiN n else n) fl tx ln)) H := hP
  have hD : va_D A (mQ cy ma r σ n fl tx ln ++ ([aJ cy out 1 u.1] ++ fQ cy x a tr s0 s1 pa u.2 (if fLose σ (xs (i + 1)) (xs (i + 2)) (xs (i + 3)) (xs (i + 4)) = 0 then loseR σ (xs (i + 1)) (xs (i + 2)) (xs (i + 3)) (xs (i + 4)) else σ) (if fLose σ (xs (i + 1)) (xs (i + 2)) (xs (i + 3)) (xs (i + 4)) = 0 then hiN n else n) fl tx ln)) := hD
  have hσ9 : (if fLose σ (xs (i + 1)) (xs (i + 2)) (xs (i + 3)) (xs (i + 4)) = 0 then loseR σ (xs (i + 1)) (xs (i + 2)) (xs (i + 3)) (xs (i + 4)) else σ) = loseR σ (xs (i + 1)) (xs (i + 2)) (xs (i + 3)) (xs (i + 4)) := by
    by_cases h9 : fLose σ (xs (i + 1)) (xs (i + 2)) (xs (i + 3)) (xs (i + 4)) = 0
    · rw [if_pos h9]
    · rw [if_neg h9]; exact (if_neg h9).symm
  rw [hσ9] at hP hD hu
  have hP : va_P g vwCl (mQ cy ma r σ n fl tx ln ++ ([aJ cy out 1 u.1] ++ fQ cy x a tr s0 s1 pa u.2 (loseR σ (xs (i + 1)) (xs (i + 2)) (xs (i + 3)) (xs (i + 4))) (if fLose σ (xs (i + 1)) (xs (i + 2)) (xs (i + 3)) (xs (i + 4)) = 0 then hiN n else n) fl tx ln)) H := hP
  have hD : va_D A (mQ cy ma r σ n fl tx ln ++ ([aJ cy out 1 u.1] ++ fQ cy x a tr s0 s1 pa u.2 (loseR σ (xs (i + 1)) (xs (i + 2)) (xs (i + 3)) (xs (i + 4))) (if fLose σ (xs (i + 1)) (xs (i + 2)) (xs (i + 3)) (xs (i + 4)) = 0 then hiN n else n) fl tx ln)) := hD
  have hrk9 : rkm 1 2 3 (fLose σ (xs (i + 1)) (xs (i + 2)) (xs (i + 3)) (xs (i + 4))) < 10 := by unfold rkm; (repeat' split) <;> omega
  show W _ _ _ _ _ _ _ _ _ _ _ _ _ _ _ (F0 mX 635 ls [.int (nI (rkm 1 2 3 (fLose σ (xs (i + 1)) (xs (i + 2)) (xs (i + 3)) (xs (i + 4)))))])
  refine lv_istore (lv' := [(5, .int (nI (rkm 1 2 3 (fLose σ (xs (i + 1)) (xs (i + 2)) (xs (i + 3)) (xs (i + 4)))))), (0, .ref b), (1, .ref (x 0)), (2, .ref (ma 0)), (3, .ref out), (4, .int (nI i))]) hx hb dL_law_635 hl (by decide) rfl (fun ls hl => ?_)
  refine lv_aload_n hx hb dL_law_637 rfl (lv_at hl 3 rfl) ?_
  refine lv_aload_n hx hb dL_law_638 rfl (lv_at hl 1 rfl) ?_
  refine lv_iload hx hb dL_law_639 (lv_at hl 5 rfl) ?_
  refine lv_iconst (v := (nI 1)) hx hb dL_law_641 (by decide) ?_
  refine lv_iadd hx hb dL_law_642 ?_
  refine ti (nI_add i 1) ?_
  refine va_sld hx hb hXs hbl hbA hS (vp_in_nI (n := (i + 1)) (by omega) (by omega)) dL_law_643 ?_
  refine ti (show xs (nI (i + 1)).toNatClampNeg = xs (i + 1) from by rw [nI_clamp (by omega)]) ?_
  refine lv_aload_n hx hb dL_law_644 rfl (lv_at hl 1 rfl) ?_
  refine lv_iload hx hb dL_law_645 (lv_at hl 5 rfl) ?_
  refine lv_iconst (v := (nI 2)) hx hb dL_law_647 (by decide) ?_
  refine lv_iadd hx hb dL_law_648 ?_
  refine ti (nI_add i 2) ?_
  refine va_sld hx hb hXs hbl hbA hS (vp_in_nI (n := (i + 2)) (by omega) (by omega)) dL_law_649 ?_
  refine ti (show xs (nI (i + 2)).toNatClampNeg = xs (i + 2) from by rw [nI_clamp (by omega)]) ?_
  refine lv_aload_n hx hb dL_law_650 rfl (lv_at hl 1 rfl) ?_
  refine lv_iload hx hb dL_law_651 (lv_at hl 5 rfl) ?_
  refine lv_iconst (v := (nI 3)) hx hb dL_law_653 (by decide) ?_
  refine lv_iadd hx hb dL_law_654 ?_
  refine ti (nI_add i 3) ?_
  refine va_sld hx hb hXs hbl hbA hS (vp_in_nI (n := (i + 3)) (by omega) (by omega)) dL_law_655 ?_
  refine ti (show xs (nI (i + 3)).toNatClampNeg = xs (i + 3) from by rw [nI_clamp (by omega)]) ?_
  refine lv_aload_n hx hb dL_law_656 rfl (lv_at hl 1 rfl) ?_
  refine lv_iload hx hb dL_law_657 (lv_at hl 5 rfl) ?_
  refine lv_iconst (v := (nI 4)) hx hb dL_law_659 (by decide) ?_
  refine lv_iadd hx hb dL_law_660 ?_
  refine ti (nI_add i 4) ?_
  refine va_sld hx hb hXs hbl hbA hS (vp_in_nI (n := (i + 4)) (by omega) (by omega)) dL_law_661 ?_
  refine ti (show xs (nI (i + 4)).toNatClampNeg = xs (i + 4) from by rw [nI_clamp (by omega)]) ?_
  obtain ⟨hP, hD⟩ := sw_PD (L := []) (M := mQ cy ma r σ n fl tx ln) (T := ([aJ cy out 1 u.1] ++ fQ cy x a tr s0 s1 pa u.2 (loseR σ (xs (i + 1)) (xs (i + 2)) (xs (i + 3)) (xs (i + 4))) (if fLose σ (xs (i + 1)) (xs (i + 2)) (xs (i + 3)) (xs (i + 4)) = 0 then hiN n else n) fl tx ln)) hP hD
  have hP : va_P g vwCl (([aJ cy out 1 u.1] ++ fQ cy x a tr s0 s1 pa u.2 (loseR σ (xs (i + 1)) (xs (i + 2)) (xs (i + 3)) (xs (i + 4))) (if fLose σ (xs (i + 1)) (xs (i + 2)) (xs (i + 3)) (xs (i + 4)) = 0 then hiN n else n) fl tx ln) ++ mQ cy ma r σ n fl tx ln) H := hP
  have hD : va_D A (([aJ cy out 1 u.1] ++ fQ cy x a tr s0 s1 pa u.2 (loseR σ (xs (i + 1)) (xs (i + 2)) (xs (i + 3)) (xs (i + 4))) (if fLose σ (xs (i + 1)) (xs (i + 2)) (xs (i + 3)) (xs (i + 4)) = 0 then hiN n else n) fl tx ln) ++ mQ cy ma r σ n fl tx ln) := hD
  refine wr_callS (pre := ([aJ cy out 1 u.1] ++ fQ cy x a tr s0 s1 pa u.2 (loseR σ (xs (i + 1)) (xs (i + 2)) (xs (i + 3)) (xs (i + 4))) (if fLose σ (xs (i + 1)) (xs (i + 2)) (xs (i + 3)) (xs (i + 4)) = 0 then hiN n else n) fl tx ln)) (wc := mQ cy ma r σ n fl tx ln) (va_runV (As := [.int (xs (i + 1)), .int (xs (i + 2)), .int (xs (i + 3)), .int (xs (i + 4))]) (rest := []) ⟨hx, hb, hml, hown, hts⟩ (c_X8_lose l g cy ma H.size bd r σ Hh n K fl tx ln (xs (i + 1)) (xs (i + 2)) (xs (i + 3)) (xs (i + 4)) hM ) ⟨cB 4 hts wd30_15 wd1_5 wd30_12 rfl rfl (by decide +kernel) ⟨Nat.le_of_ble_eq_true rfl, Nat.le_of_ble_eq_true rfl⟩, hts _ wd30_13, hts _ wd30_14⟩ (pvS hK hP hD hS hA hX 6 rfl rfl) rfl rfl hl.1 rfl (lv_room (Nat.le_of_ble_eq_true rfl)) dL_law_662 ⟨by show _ ≤ 601024; omega, by show _ ≤ 7293033; omega⟩) hP hD hS hA (fun _ => mQ_ad) (fun r9 H locs hr9 hP hD hS => ?_)
  have hP : va_P g vwCl (([aJ cy out 1 u.1] ++ fQ cy x a tr s0 s1 pa u.2 (loseR σ (xs (i + 1)) (xs (i + 2)) (xs (i + 3)) (xs (i + 4))) (if fLose σ (xs (i + 1)) (xs (i + 2)) (xs (i + 3)) (xs (i + 4)) = 0 then hiN n else n) fl tx ln) ++ (mQ cy ma r9 (loseR σ (xs (i + 1)) (xs (i + 2)) (xs (i + 3)) (xs (i + 4))) (if fLose σ (xs (i + 1)) (xs (i + 2)) (xs (i + 3)) (xs (i + 4)) = 0 then hiN n else n) fl tx ln)) H := hP
  have hD : va_D A (([aJ cy out 1 u.1] ++ fQ cy x a tr s0 s1 pa u.2 (loseR σ (xs (i + 1)) (xs (i + 2)) (xs (i + 3)) (xs (i + 4))) (if fLose σ (xs (i + 1)) (xs (i + 2)) (xs (i + 3)) (xs (i + 4)) = 0 then hiN n else n) fl tx ln) ++ (mQ cy ma r9 (loseR σ (xs (i + 1)) (xs (i + 2)) (xs (i + 3)) (xs (i + 4))) (if fLose σ (xs (i + 1)) (xs (i + 2)) (xs (i + 3)) (xs (i + 4)) = 0 then hiN n else n) fl tx ln)) := hD
  obtain ⟨hP, hD⟩ := sw_PD (L := []) (M := ([aJ cy out 1 u.1] ++ fQ cy x a tr s0 s1 pa u.2 (loseR σ (xs (i + 1)) (xs (i + 2)) (xs (i + 3)) (xs (i + 4))) (if fLose σ (xs (i + 1)) (xs (i + 2)) (xs (i + 3)) (xs (i + 4)) = 0 then hiN n else n) fl tx ln)) (T := (mQ cy ma r9 (loseR σ (xs (i + 1)) (xs (i + 2)) (xs (i + 3)) (xs (i + 4))) (if fLose σ (xs (i + 1)) (xs (i + 2)) (xs (i + 3)) (xs (i + 4)) = 0 then hiN n else n) fl tx ln)) hP hD
  have hP : va_P g vwCl ((mQ cy ma r9 (loseR σ (xs (i + 1)) (xs (i + 2)) (xs (i + 3)) (xs (i + 4))) (if fLose σ (xs (i + 1)) (xs (i + 2)) (xs (i + 3)) (xs (i + 4)) = 0 then hiN n else n) fl tx ln) ++ ([aJ cy out 1 u.1] ++ fQ cy x a tr s0 s1 pa u.2 (loseR σ (xs (i + 1)) (xs (i + 2)) (xs (i + 3)) (xs (i + 4))) (if fLose σ (xs (i + 1)) (xs (i + 2)) (xs (i + 3)) (xs (i + 4)) = 0 then hiN n else n) fl tx ln)) H := hP
  have hD : va_D A ((mQ cy ma r9 (loseR σ (xs (i + 1)) (xs (i + 2)) (xs (i + 3)) (xs (i + 4))) (if fLose σ (xs (i + 1)) (xs (i + 2)) (xs (i + 3)) (xs (i + 4)) = 0 then hiN n else n) fl tx ln) ++ ([aJ cy out 1 u.1] ++ fQ cy x a tr s0 s1 pa u.2 (loseR σ (xs (i + 1)) (xs (i + 2)) (xs (i + 3)) (xs (i + 4))) (if fLose σ (xs (i + 1)) (xs (i + 2)) (xs (i + 3)) (xs (i + 4)) = 0 then hiN n else n) fl tx ln)) := hD
  show W _ _ _ _ _ _ _ _ _ _ _ _ _ _ _ (F0 mX 665 ls [.int (nI (if fLose σ (xs (i + 1)) (xs (i + 2)) (xs (i + 3)) (xs (i + 4)) = 0 then σ 0 else 0))])
  refine lv_istore (lv' := [(6, .int (nI (if fLose σ (xs (i + 1)) (xs (i + 2)) (xs (i + 3)) (xs (i + 4)) = 0 then σ 0 else 0))), (5, .int (nI (rkm 1 2 3 (fLose σ (xs (i + 1)) (xs (i + 2)) (xs (i + 3)) (xs (i + 4)))))), (0, .ref b), (1, .ref (x 0)), (2, .ref (ma 0)), (3, .ref out), (4, .int (nI i))]) hx hb dL_law_665 hl (by decide) rfl (fun ls hl => ?_)
  refine lv_aload_n hx hb dL_law_667 rfl (lv_at hl 4 rfl) ?_
  obtain ⟨hP, hD⟩ := sw_PD (L := []) (M := (mQ cy ma r9 (loseR σ (xs (i + 1)) (xs (i + 2)) (xs (i + 3)) (xs (i + 4))) (if fLose σ (xs (i + 1)) (xs (i + 2)) (xs (i + 3)) (xs (i + 4)) = 0 then hiN n else n) fl tx ln)) (T := ([aJ cy out 1 u.1] ++ fQ cy x a tr s0 s1 pa u.2 (loseR σ (xs (i + 1)) (xs (i + 2)) (xs (i + 3)) (xs (i + 4))) (if fLose σ (xs (i + 1)) (xs (i + 2)) (xs (i + 3)) (xs (i + 4)) = 0 then hiN n else n) fl tx ln)) hP hD
  have hP : va_P g vwCl (([aJ cy out 1 u.1] ++ fQ cy x a tr s0 s1 pa u.2 (loseR σ (xs (i + 1)) (xs (i + 2)) (xs (i + 3)) (xs (i + 4))) (if fLose σ (xs (i + 1)) (xs (i + 2)) (xs (i + 3)) (xs (i + 4)) = 0 then hiN n else n) fl tx ln) ++ (mQ cy ma r9 (loseR σ (xs (i + 1)) (xs (i + 2)) (xs (i + 3)) (xs (i + 4))) (if fLose σ (xs (i + 1)) (xs (i + 2)) (xs (i + 3)) (xs (i + 4)) = 0 then hiN n else n) fl tx ln)) H := hP
  have hD : va_D A (([aJ cy out 1 u.1] ++ fQ cy x a tr s0 s1 pa u.2 (loseR σ (xs (i + 1)) (xs (i + 2)) (xs (i + 3)) (xs (i + 4))) (if fLose σ (xs (i + 1)) (xs (i + 2)) (xs (i + 3)) (xs (i + 4)) = 0 then hiN n else n) fl tx ln) ++ (mQ cy ma r9 (loseR σ (xs (i + 1)) (xs (i + 2)) (xs (i + 3)) (xs (i + 4))) (if fLose σ (xs (i + 1)) (xs (i + 2)) (xs (i + 3)) (xs (i + 4)) = 0 then hiN n else n) fl tx ln)) := hD
  refine rd_call (va_runV (As := []) (rest := []) ⟨hx, hb, hml, hown, hts⟩ (c_X8_thrown l g cy H.size ma r9.1 r9.2.1 r9.2.2.1 r9.2.2.2.1 r9.2.2.2.2.1 r9.2.2.2.2.2.1 r9.2.2.2.2.2.2.1 r9.2.2.2.2.2.2.2 (loseR σ (xs (i + 1)) (xs (i + 2)) (xs (i + 3)) (xs (i + 4))) (if fLose σ (xs (i + 1)) (xs (i + 2)) (xs (i + 3)) (xs (i + 4)) = 0 then hiN n else n) fl tx ln) ⟨cB 0 hts wd8_2 wd1_5 wd7_23 rfl rfl (by decide +kernel) ⟨Nat.le_of_ble_eq_true rfl, Nat.le_of_ble_eq_true rfl⟩, hts _ wd8_0, hts _ wd8_1⟩ (pvS (wc := (mQ cy ma r9 (loseR σ (xs (i + 1)) (xs (i + 2)) (xs (i + 3)) (xs (i + 4))) (if fLose σ (xs (i + 1)) (xs (i + 2)) (xs (i + 3)) (xs (i + 4)) = 0 then hiN n else n) fl tx ln)) hK hP hD hS hA hX 6 rfl rfl) rfl rfl hl.1 rfl (lv_room (Nat.le_of_ble_eq_true rfl)) dL_law_668 ⟨by show _ ≤ 601024; omega, by show _ ≤ 7293033; omega⟩) ?_
  obtain ⟨hP, hD⟩ := sw_PD (L := []) (M := ([aJ cy out 1 u.1] ++ fQ cy x a tr s0 s1 pa u.2 (loseR σ (xs (i + 1)) (xs (i + 2)) (xs (i + 3)) (xs (i + 4))) (if fLose σ (xs (i + 1)) (xs (i + 2)) (xs (i + 3)) (xs (i + 4)) = 0 then hiN n else n) fl tx ln)) (T := (mQ cy ma r9 (loseR σ (xs (i + 1)) (xs (i + 2)) (xs (i + 3)) (xs (i + 4))) (if fLose σ (xs (i + 1)) (xs (i + 2)) (xs (i + 3)) (xs (i + 4)) = 0 then hiN n else n) fl tx ln)) hP hD
  have hP : va_P g vwCl ((mQ cy ma r9 (loseR σ (xs (i + 1)) (xs (i + 2)) (xs (i + 3)) (xs (i + 4))) (if fLose σ (xs (i + 1)) (xs (i + 2)) (xs (i + 3)) (xs (i + 4)) = 0 then hiN n else n) fl tx ln) ++ ([aJ cy out 1 u.1] ++ fQ cy x a tr s0 s1 pa u.2 (loseR σ (xs (i + 1)) (xs (i + 2)) (xs (i + 3)) (xs (i + 4))) (if fLose σ (xs (i + 1)) (xs (i + 2)) (xs (i + 3)) (xs (i + 4)) = 0 then hiN n else n) fl tx ln)) H := hP
  have hD : va_D A ((mQ cy ma r9 (loseR σ (xs (i + 1)) (xs (i + 2)) (xs (i + 3)) (xs (i + 4))) (if fLose σ (xs (i + 1)) (xs (i + 2)) (xs (i + 3)) (xs (i + 4)) = 0 then hiN n else n) fl tx ln) ++ ([aJ cy out 1 u.1] ++ fQ cy x a tr s0 s1 pa u.2 (loseR σ (xs (i + 1)) (xs (i + 2)) (xs (i + 3)) (xs (i + 4))) (if fLose σ (xs (i + 1)) (xs (i + 2)) (xs (i + 3)) (xs (i + 4)) = 0 then hiN n else n) fl tx ln)) := hD
  refine ti (show nI r9.2.2.2.2.2.2.2 = nI (rkm 1 2 3 (fLose σ (xs (i + 1)) (xs (i + 2)) (xs (i + 3)) (xs (i + 4)))) from congrArg nI hr9.1) ?_
  show W _ _ _ _ _ _ _ _ _ _ _ _ _ _ _ (F0 mX 671 ls [.int (nI (rkm 1 2 3 (fLose σ (xs (i + 1)) (xs (i + 2)) (xs (i + 3)) (xs (i + 4)))))])
  refine lv_iload hx hb dL_law_671 (lv_at hl 1 rfl) ?_
  refine lv_icmp_eq (tgt := 678) hx hb dL_law_673 (by decide) (fun c_673 => ?_) (fun c_673 => ?_)
  · have c_673 := (nc_eq9 (by omega) (by omega) c_673)
    refine lv_iload hx hb dL_law_678 (lv_at hl 1 rfl) ?_
    refine lv_if_ne (tgt := 695) hx hb dL_law_680 (by decide) (fun c_680 => ?_) (fun c_680 => ?_)
    · have c_680 := (nz_ne c_680 (by omega))
      refine lv_goto (tgt := 1691) hx hb dL_law_695 (by decide) ?_
      exact kk u.2 (r9) (loseR σ (xs (i + 1)) (xs (i + 2)) (xs (i + 3)) (xs (i + 4))) (if fLose σ (xs (i + 1)) (xs (i + 2)) (xs (i + 3)) (xs (i + 4)) = 0 then hiH Hh n σ else Hh) (if fLose σ (xs (i + 1)) (xs (i + 2)) (xs (i + 3)) (xs (i + 4)) = 0 then hiN n else n) K fl tx ln u.1 H locs ls (fI_mono hu.2 (by (try split) <;> omega) (by omega)) (mI_mono hr9.2 (by (try split) <;> omega) (by omega)) hP hD hS (lv_sub hl [2, 3, 4, 5, 6] rfl)
    · have c_680 := (nz_eq c_680 (by omega))
      have c_680 : rkm 1 2 3 (fLose σ (xs (i + 1)) (xs (i + 2)) (xs (i + 3)) (xs (i + 4))) = 0 := c_680
      have hz9 : fLose σ (xs (i + 1)) (xs (i + 2)) (xs (i + 3)) (xs (i + 4)) = 0 := rkm_z (by unfold fLose rkm; (repeat' split) <;> omega) c_680
      refine lv_aload_n hx hb dL_law_683 rfl (lv_at hl 5 rfl) ?_
      refine lv_iconst (v := (nI 0)) hx hb dL_law_684 (by decide) ?_
      refine va_lald hx hb hK hP 9 3 rfl rfl (vp_in_nI (n := 0) (by omega) (by omega)) dL_law_685 ?_
      refine tl (show u.1 (nI 0).toNatClampNeg = ((nI (σ 0)) : Int32).toInt64 from by rw [nI_clamp (by omega)]; exact hu.1 hz9) ?_
      refine lv_iload hx hb dL_law_686 (lv_at hl 0 rfl) ?_
      refine ti (show (nI (if fLose σ (xs (i + 1)) (xs (i + 2)) (xs (i + 3)) (xs (i + 4)) = 0 then σ 0 else 0)) = (nI (σ 0)) from (by rw [if_pos hz9])) ?_
      refine lv_i2l (v := (nI (σ 0)).toInt64) hx hb dL_law_688 rfl ?_
      refine W.lcmp hx hb dL_law_689 ?_
      refine lv_if_eq (tgt := 695) hx hb dL_law_690 (by decide) (fun c_690 => ?_) (fun c_690 => ?_)
      · have c_690 := lc_eq c_690
        refine lv_goto (tgt := 1691) hx hb dL_law_695 (by decide) ?_
        exact kk u.2 (r9) (loseR σ (xs (i + 1)) (xs (i + 2)) (xs (i + 3)) (xs (i + 4))) (if fLose σ (xs (i + 1)) (xs (i + 2)) (xs (i + 3)) (xs (i + 4)) = 0 then hiH Hh n σ else Hh) (if fLose σ (xs (i + 1)) (xs (i + 2)) (xs (i + 3)) (xs (i + 4)) = 0 then hiN n else n) K fl tx ln u.1 H locs ls (fI_mono hu.2 (by (try split) <;> omega) (by omega)) (mI_mono hr9.2 (by (try split) <;> omega) (by omega)) hP hD hS (lv_sub hl [2, 3, 4, 5, 6] rfl)
      · have c_690 := lc_ne c_690
        exact absurd rfl c_690
  · have c_673 := (nc_ne9 (by omega) (by omega) c_673)
    exact absurd rfl c_673
set_option maxHeartbeats 4000000 in
set_option maxRecDepth 100000 in
theorem lw_sight {pX : Program} {l : Launch} {eX : Env} {s : State} {mX : MethodId} {below : List Frame} {meth : Method} {cX : Code} {b L : Nat} {xs : Nat → Int32} {QX : State → Prop} {A : Nat → Prop} (hfl : l.stackTraces = false) (g : va_G) (cy : Nat → ClassId) (hx : pX.tables.exec = Jvm.exec) (hb : cX.code = cL_law) (hml : cX.maxLocals = 7) (hown : s.vm.findClass RL = some mX.cls) (hts : ∀ w ∈ wsL_law, w.before #[Value.ref b] s = true) (hA : ∀ q : Nat, s.heap.size ≤ q → A q) (hK : va_K g vwCl (Ty cy) s) (hX : Cx A s s.heap) (hY : Cy s) (hXs : va_X b L xs s s.heap) (hbl : b < s.heap.size) (hbA : ¬ A b) (hL : L ≤ 3072)
    {x a tr s0 s1 ma : Nat → Nat} {pa : Nat → Nat → Nat} {out i bd cells slots : Nat} {q : Sc} {r : Mc} {σ : Nat → Nat} {Hh : Nat → Nat → Nat} {n : Nat} {K : Nat → Nat → Nat} {fl : Nat → Bool} {tx : Nat → Nat} {ln : Nat} {f : Nat → Int64} {H : Heap} {locs : List Loc} {ls : Array Slot} (hi : i + 6 ≤ L) (hbd1 : 11880 ≤ bd) (hbd2 : bd ≤ 63000) (hc9 : cells ≤ 10000) (hs9 : slots ≤ 100000) (hI : fI bd q σ Hh n K fl tx ln) (hM : mI bd r σ Hh n K fl tx ln) (hP : va_P g vwCl (mQ cy ma r σ n fl tx ln ++ ([aJ cy out 1 f] ++ fQ cy x a tr s0 s1 pa q σ n fl tx ln)) H) (hD : va_D A (mQ cy ma r σ n fl tx ln ++ ([aJ cy out 1 f] ++ fQ cy x a tr s0 s1 pa q σ n fl tx ln))) (hS : va_S A s.heap H locs) (hl : lv_has ls 7 [(0, .ref b), (1, .ref (x 0)), (2, .ref (ma 0)), (3, .ref out), (4, .int (nI i))])
    (kk : ∀ (q : Sc) (r : Mc) (σ : Nat → Nat) (Hh : Nat → Nat → Nat) (n : Nat) (K : Nat → Nat → Nat) (fl : Nat → Bool) (tx : Nat → Nat) (ln : Nat) (f : Nat → Int64) (H : Heap) (locs : List Loc) (ls : Array Slot), fI (bd + 99) q σ Hh n K fl tx ln → mI (bd + 99) r σ Hh n K fl tx ln → va_P g vwCl (mQ cy ma r σ n fl tx ln ++ ([aJ cy out 1 f] ++ fQ cy x a tr s0 s1 pa q σ n fl tx ln)) H → va_D A (mQ cy ma r σ n fl tx ln ++ ([aJ cy out 1 f] ++ fQ cy x a tr s0 s1 pa q σ n fl tx ln)) → va_S A s.heap H locs → lv_has ls 7 [(0, .ref b), (1, .ref (x 0)), (2, .ref (ma 0)), (3, .ref out), (4, .int (nI i))] → W pX l eX room_1 s mX #[Value.ref b] below meth cX H locs (cells + 1) (slots + 6) QX (F0 mX 1691 ls [])) :
    W pX l eX room_1 s mX #[Value.ref b] below meth cX H locs cells slots QX (F0 mX 698 ls []) := by
  have hl : lv_has ls 7 [(0, .ref b), (1, .ref (x 0)), (2, .ref (ma 0)), (3, .ref out), (4, .int (nI i))] := hl
  refine lv_aload_n hx hb dL_law_698 rfl (lv_at hl 1 rfl) ?_
  refine lv_aload_n hx hb dL_law_699 rfl (lv_at hl 0 rfl) ?_
  refine lv_iload hx hb dL_law_700 (lv_at hl 4 rfl) ?_
  refine lv_iconst (v := (nI 1)) hx hb dL_law_702 (by decide) ?_
  refine lv_iadd hx hb dL_law_703 ?_
  refine ti (nI_add i 1) ?_
  refine va_sld hx hb hXs hbl hbA hS (vp_in_nI (n := (i + 1)) (by omega) (by omega)) dL_law_704 ?_
  refine ti (show xs (nI (i + 1)).toNatClampNeg = xs (i + 1) from by rw [nI_clamp (by omega)]) ?_
  refine lv_aload_n hx hb dL_law_705 rfl (lv_at hl 0 rfl) ?_
  refine lv_iload hx hb dL_law_706 (lv_at hl 4 rfl) ?_
  refine lv_iconst (v := (nI 2)) hx hb dL_law_708 (by decide) ?_
  refine lv_iadd hx hb dL_law_709 ?_
  refine ti (nI_add i 2) ?_
  refine va_sld hx hb hXs hbl hbA hS (vp_in_nI (n := (i + 2)) (by omega) (by omega)) dL_law_710 ?_
  refine ti (show xs (nI (i + 2)).toNatClampNeg = xs (i + 2) from by rw [nI_clamp (by omega)]) ?_
  refine lv_aload_n hx hb dL_law_711 rfl (lv_at hl 0 rfl) ?_
  refine lv_iload hx hb dL_law_712 (lv_at hl 4 rfl) ?_
  refine lv_iconst (v := (nI 3)) hx hb dL_law_714 (by decide) ?_
  refine lv_iadd hx hb dL_law_715 ?_
  refine ti (nI_add i 3) ?_
  refine va_sld hx hb hXs hbl hbA hS (vp_in_nI (n := (i + 3)) (by omega) (by omega)) dL_law_716 ?_
  refine ti (show xs (nI (i + 3)).toNatClampNeg = xs (i + 3) from by rw [nI_clamp (by omega)]) ?_
  refine lv_aload_n hx hb dL_law_717 rfl (lv_at hl 0 rfl) ?_
  refine lv_iload hx hb dL_law_718 (lv_at hl 4 rfl) ?_
  refine lv_iconst (v := (nI 4)) hx hb dL_law_720 (by decide) ?_
  refine lv_iadd hx hb dL_law_721 ?_
  refine ti (nI_add i 4) ?_
  refine va_sld hx hb hXs hbl hbA hS (vp_in_nI (n := (i + 4)) (by omega) (by omega)) dL_law_722 ?_
  refine ti (show xs (nI (i + 4)).toNatClampNeg = xs (i + 4) from by rw [nI_clamp (by omega)]) ?_
  refine jn_i (pcj := 737) (ls := ls) (st := [.int (xs (i + 4)), .int (xs (i + 3)), .int (xs (i + 2)), .int (xs (i + 1)), .ref (x 0)]) (fun v9 => v9 = (bI (!decide (xs (i + 5) = 0)))) ?_ (fun jn737 => ?_)
  · intro v9 hv9
    subst hv9
    refine lv_aload_n hx hb dL_law_737 rfl (lv_at hl 3 rfl) ?_
    refine wr_callS (pre := mQ cy ma r σ n fl tx ln) (wc := ([aJ cy out 1 f] ++ fQ cy x a tr s0 s1 pa q σ n fl tx ln)) (vx_runSW (hh := [(0, 16, 19, 28), (0, 16, 23, 13), (0, 16, 27, 15)]) (As := [.ref (x 0), .int (xs (i + 1)), .int (xs (i + 2)), .int (xs (i + 3)), .int (xs (i + 4)), .int (bI (!decide (xs (i + 5) = 0))), .ref out]) (rest := []) ⟨hx, hb, hml, hown, hts⟩ (c_L_sight l hfl g cy out f x a tr s0 s1 pa H.size bd q σ Hh n K fl tx ln (xs (i + 1)) (xs (i + 2)) (xs (i + 3)) (xs (i + 4)) (!decide (xs (i + 5) = 0)) hI ) (vx_cwSW 7 hts (hl_in wd31_0 wd6_9 wd30_22 wd30_23) rfl rfl rfl (by decide +kernel) ⟨Nat.le_of_ble_eq_true rfl, Nat.le_of_ble_eq_true rfl⟩) (ps2 hK hP hD hS hA hX hY _ nd_suffix at_suffix) rfl rfl hl.1 rfl (lv_room (Nat.le_of_ble_eq_true rfl)) dL_law_738 ⟨by show _ ≤ 601024; omega, by show _ ≤ 7293033; omega⟩) hP hD hS hA (fun _ => congrArg (fun z => out :: z) fQ_ad) (fun u H locs hu hP hD hS => ?_)
    have hP : va_P g vwCl (mQ cy ma r σ n fl tx ln ++ ([aJ cy out 1 u.1] ++ fQ cy x a tr s0 s1 pa u.2 (if fTell σ (xs (i + 1)) (xs (i + 2)) (xs (i + 3)) (xs (i + 4)) = 0 then sightR σ (xs (i + 1)) (xs (i + 2)) (xs (i + 3)) (xs (i + 4)) (!decide (xs (i + 5) = 0)) else σ) (if fTell σ (xs (i + 1)) (xs (i + 2)) (xs (i + 3)) (xs (i + 4)) = 0 then hiN n else n) fl tx ln)) H := hP
    have hD : va_D A (mQ cy ma r σ n fl tx ln ++ ([aJ cy out 1 u.1] ++ fQ cy x a tr s0 s1 pa u.2 (if fTell σ (xs (i + 1)) (xs (i + 2)) (xs (i + 3)) (xs (i + 4)) = 0 then sightR σ (xs (i + 1)) (xs (i + 2)) (xs (i + 3)) (xs (i + 4)) (!decide (xs (i + 5) = 0)) else σ) (if fTell σ (xs (i + 1)) (xs (i + 2)) (xs (i + 3)) (xs (i + 4)) = 0 then hiN n else n) fl tx ln)) := hD
    have hσ9 : (if fTell σ (xs (i + 1)) (xs (i + 2)) (xs (i + 3)) (xs (i + 4)) = 0 then sightR σ (xs (i + 1)) (xs (i + 2)) (xs (i + 3)) (xs (i + 4)) (!decide (xs (i + 5) = 0)) else σ) = sightR σ (xs (i + 1)) (xs (i + 2)) (xs (i + 3)) (xs (i + 4)) (!decide (xs (i + 5) = 0)) := by
      by_cases h9 : fTell σ (xs (i + 1)) (xs (i + 2)) (xs (i + 3)) (xs (i + 4)) = 0
      · rw [if_pos h9]
      · rw [if_neg h9]; exact (if_neg h9).symm
    rw [hσ9] at hP hD hu
    have hP : va_P g vwCl (mQ cy ma r σ n fl tx ln ++ ([aJ cy out 1 u.1] ++ fQ cy x a tr s0 s1 pa u.2 (sightR σ (xs (i + 1)) (xs (i + 2)) (xs (i + 3)) (xs (i + 4)) (!decide (xs (i + 5) = 0))) (if fTell σ (xs (i + 1)) (xs (i + 2)) (xs (i + 3)) (xs (i + 4)) = 0 then hiN n else n) fl tx ln)) H := hP
    have hD : va_D A (mQ cy ma r σ n fl tx ln ++ ([aJ cy out 1 u.1] ++ fQ cy x a tr s0 s1 pa u.2 (sightR σ (xs (i + 1)) (xs (i + 2)) (xs (i + 3)) (xs (i + 4)) (!decide (xs (i + 5) = 0))) (if fTell σ (xs (i + 1)) (xs (i + 2)) (xs (i + 3)) (xs (i + 4)) = 0 then hiN n else n) fl tx ln)) := hD
    have hrk9 : rkm 1 2 3 (fTell σ (xs (i + 1)) (xs (i + 2)) (xs (i + 3)) (xs (i + 4))) < 10 := by unfold rkm; (repeat' split) <;> omega
    show W _ _ _ _ _ _ _ _ _ _ _ _ _ _ _ (F0 mX 741 ls [.int (nI (rkm 1 2 3 (fTell σ (xs (i + 1)) (xs (i + 2)) (xs (i + 3)) (xs (i + 4)))))])
    refine lv_istore (lv' := [(5, .int (nI (rkm 1 2 3 (fTell σ (xs (i + 1)) (xs (i + 2)) (xs (i + 3)) (xs (i + 4)))))), (0, .ref b), (1, .ref (x 0)), (2, .ref (ma 0)), (3, .ref out), (4, .int (nI i))]) hx hb dL_law_741 hl (by decide) rfl (fun ls hl => ?_)
    refine lv_aload_n hx hb dL_law_743 rfl (lv_at hl 3 rfl) ?_
    refine lv_aload_n hx hb dL_law_744 rfl (lv_at hl 1 rfl) ?_
    refine lv_iload hx hb dL_law_745 (lv_at hl 5 rfl) ?_
    refine lv_iconst (v := (nI 1)) hx hb dL_law_747 (by decide) ?_
    refine lv_iadd hx hb dL_law_748 ?_
    refine ti (nI_add i 1) ?_
    refine va_sld hx hb hXs hbl hbA hS (vp_in_nI (n := (i + 1)) (by omega) (by omega)) dL_law_749 ?_
    refine ti (show xs (nI (i + 1)).toNatClampNeg = xs (i + 1) from by rw [nI_clamp (by omega)]) ?_
    refine lv_aload_n hx hb dL_law_750 rfl (lv_at hl 1 rfl) ?_
    refine lv_iload hx hb dL_law_751 (lv_at hl 5 rfl) ?_
    refine lv_iconst (v := (nI 2)) hx hb dL_law_753 (by decide) ?_
    refine lv_iadd hx hb dL_law_754 ?_
    refine ti (nI_add i 2) ?_
    refine va_sld hx hb hXs hbl hbA hS (vp_in_nI (n := (i + 2)) (by omega) (by omega)) dL_law_755 ?_
    refine ti (show xs (nI (i + 2)).toNatClampNeg = xs (i + 2) from by rw [nI_clamp (by omega)]) ?_
    refine lv_aload_n hx hb dL_law_756 rfl (lv_at hl 1 rfl) ?_
    refine lv_iload hx hb dL_law_757 (lv_at hl 5 rfl) ?_
    refine lv_iconst (v := (nI 3)) hx hb dL_law_759 (by decide) ?_
    refine lv_iadd hx hb dL_law_760 ?_
    refine ti (nI_add i 3) ?_
    refine va_sld hx hb hXs hbl hbA hS (vp_in_nI (n := (i + 3)) (by omega) (by omega)) dL_law_761 ?_
    refine ti (show xs (nI (i + 3)).toNatClampNeg = xs (i + 3) from by rw [nI_clamp (by omega)]) ?_
    refine lv_aload_n hx hb dL_law_762 rfl (lv_at hl 1 rfl) ?_
    refine lv_iload hx hb dL_law_763 (lv_at hl 5 rfl) ?_
    refine lv_iconst (v := (nI 4)) hx hb dL_law_765 (by decide) ?_
    refine lv_iadd hx hb dL_law_766 ?_
    refine ti (nI_add i 4) ?_
    refine va_sld hx hb hXs hbl hbA hS (vp_in_nI (n := (i + 4)) (by omega) (by omega)) dL_law_767 ?_
    refine ti (show xs (nI (i + 4)).toNatClampNeg = xs (i + 4) from by rw [nI_clamp (by omega)]) ?_
    refine jn_i (pcj := 782) (ls := ls) (st := [.int (xs (i + 4)), .int (xs (i + 3)), .int (xs (i + 2)), .int (xs (i + 1)), .ref (ma 0)]) (fun v9 => v9 = (bI (!decide (xs (i + 5) = 0)))) ?_ (fun jn782 => ?_)
    · intro v9 hv9
      subst hv9
      obtain ⟨hP, hD⟩ := sw_PD (L := []) (M := mQ cy ma r σ n fl tx ln) (T := ([aJ cy out 1 u.1] ++ fQ cy x a tr s0 s1 pa u.2 (sightR σ (xs (i + 1)) (xs (i + 2)) (xs (i + 3)) (xs (i + 4)) (!decide (xs (i + 5) = 0))) (if fTell σ (xs (i + 1)) (xs (i + 2)) (xs (i + 3)) (xs (i + 4)) = 0 then hiN n else n) fl tx ln)) hP hD
      have hP : va_P g vwCl (([aJ cy out 1 u.1] ++ fQ cy x a tr s0 s1 pa u.2 (sightR σ (xs (i + 1)) (xs (i + 2)) (xs (i + 3)) (xs (i + 4)) (!decide (xs (i + 5) = 0))) (if fTell σ (xs (i + 1)) (xs (i + 2)) (xs (i + 3)) (xs (i + 4)) = 0 then hiN n else n) fl tx ln) ++ mQ cy ma r σ n fl tx ln) H := hP
      have hD : va_D A (([aJ cy out 1 u.1] ++ fQ cy x a tr s0 s1 pa u.2 (sightR σ (xs (i + 1)) (xs (i + 2)) (xs (i + 3)) (xs (i + 4)) (!decide (xs (i + 5) = 0))) (if fTell σ (xs (i + 1)) (xs (i + 2)) (xs (i + 3)) (xs (i + 4)) = 0 then hiN n else n) fl tx ln) ++ mQ cy ma r σ n fl tx ln) := hD
      refine wr_callS (pre := ([aJ cy out 1 u.1] ++ fQ cy x a tr s0 s1 pa u.2 (sightR σ (xs (i + 1)) (xs (i + 2)) (xs (i + 3)) (xs (i + 4)) (!decide (xs (i + 5) = 0))) (if fTell σ (xs (i + 1)) (xs (i + 2)) (xs (i + 3)) (xs (i + 4)) = 0 then hiN n else n) fl tx ln)) (wc := mQ cy ma r σ n fl tx ln) (va_runV (As := [.int (xs (i + 1)), .int (xs (i + 2)), .int (xs (i + 3)), .int (xs (i + 4)), .int (bI (!decide (xs (i + 5) = 0)))]) (rest := []) ⟨hx, hb, hml, hown, hts⟩ (c_X8_sight l g cy ma H.size bd r σ Hh n K fl tx ln (xs (i + 1)) (xs (i + 2)) (xs (i + 3)) (xs (i + 4)) (!decide (xs (i + 5) = 0)) hM ) ⟨cB 5 hts wd31_10 wd1_5 wd31_7 rfl rfl (by decide +kernel) ⟨Nat.le_of_ble_eq_true rfl, Nat.le_of_ble_eq_true rfl⟩, hts _ wd31_8, hts _ wd31_9⟩ (pvS hK hP hD hS hA hX 6 rfl rfl) rfl rfl hl.1 rfl (lv_room (Nat.le_of_ble_eq_true rfl)) dL_law_782 ⟨by show _ ≤ 601024; omega, by show _ ≤ 7293033; omega⟩) hP hD hS hA (fun _ => mQ_ad) (fun r9 H locs hr9 hP hD hS => ?_)
      have hP : va_P g vwCl (([aJ cy out 1 u.1] ++ fQ cy x a tr s0 s1 pa u.2 (sightR σ (xs (i + 1)) (xs (i + 2)) (xs (i + 3)) (xs (i + 4)) (!decide (xs (i + 5) = 0))) (if fTell σ (xs (i + 1)) (xs (i + 2)) (xs (i + 3)) (xs (i + 4)) = 0 then hiN n else n) fl tx ln) ++ (mQ cy ma r9 (sightR σ (xs (i + 1)) (xs (i + 2)) (xs (i + 3)) (xs (i + 4)) (!decide (xs (i + 5) = 0))) (if fTell σ (xs (i + 1)) (xs (i + 2)) (xs (i + 3)) (xs (i + 4)) = 0 then hiN n else n) fl tx ln)) H := hP
      have hD : va_D A (([aJ cy out 1 u.1] ++ fQ cy x a tr s0 s1 pa u.2 (sightR σ (xs (i + 1)) (xs (i + 2)) (xs (i + 3)) (xs (i + 4)) (!decide (xs (i + 5) = 0))) (if fTell σ (xs (i + 1)) (xs (i + 2)) (xs (i + 3)) (xs (i + 4)) = 0 then hiN n else n) fl tx ln) ++ (mQ cy ma r9 (sightR σ (xs (i + 1)) (xs (i + 2)) (xs (i + 3)) (xs (i + 4)) (!decide (xs (i + 5) = 0))) (if fTell σ (xs (i + 1)) (xs (i + 2)) (xs (i + 3)) (xs (i + 4)) = 0 then hiN n else n) fl tx ln)) := hD
      obtain ⟨hP, hD⟩ := sw_PD (L := []) (M := ([aJ cy out 1 u.1] ++ fQ cy x a tr s0 s1 pa u.2 (sightR σ (xs (i + 1)) (xs (i + 2)) (xs (i + 3)) (xs (i + 4)) (!decide (xs (i + 5) = 0))) (if fTell σ (xs (i + 1)) (xs (i + 2)) (xs (i + 3)) (xs (i + 4)) = 0 then hiN n else n) fl tx ln)) (T := (mQ cy ma r9 (sightR σ (xs (i + 1)) (xs (i + 2)) (xs (i + 3)) (xs (i + 4)) (!decide (xs (i + 5) = 0))) (if fTell σ (xs (i + 1)) (xs (i + 2)) (xs (i + 3)) (xs (i + 4)) = 0 then hiN n else n) fl tx ln)) hP hD
      have hP : va_P g vwCl ((mQ cy ma r9 (sightR σ (xs (i + 1)) (xs (i + 2)) (xs (i + 3)) (xs (i + 4)) (!decide (xs (i + 5) = 0))) (if fTell σ (xs (i + 1)) (xs (i + 2)) (xs (i + 3)) (xs (i + 4)) = 0 then hiN n else n) fl tx ln) ++ ([aJ cy out 1 u.1] ++ fQ cy x a tr s0 s1 pa u.2 (sightR σ (xs (i + 1)) (xs (i + 2)) (xs (i + 3)) (xs (i + 4)) (!decide (xs (i + 5) = 0))) (if fTell σ (xs (i + 1)) (xs (i + 2)) (xs (i + 3)) (xs (i + 4)) = 0 then hiN n else n) fl tx ln)) H := hP
      have hD : va_D A ((mQ cy ma r9 (sightR σ (xs (i + 1)) (xs (i + 2)) (xs (i + 3)) (xs (i + 4)) (!decide (xs (i + 5) = 0))) (if fTell σ (xs (i + 1)) (xs (i + 2)) (xs (i + 3)) (xs (i + 4)) = 0 then hiN n else n) fl tx ln) ++ ([aJ cy out 1 u.1] ++ fQ cy x a tr s0 s1 pa u.2 (sightR σ (xs (i + 1)) (xs (i + 2)) (xs (i + 3)) (xs (i + 4)) (!decide (xs (i + 5) = 0))) (if fTell σ (xs (i + 1)) (xs (i + 2)) (xs (i + 3)) (xs (i + 4)) = 0 then hiN n else n) fl tx ln)) := hD
      show W _ _ _ _ _ _ _ _ _ _ _ _ _ _ _ (F0 mX 785 ls [.int (nI (if fTell σ (xs (i + 1)) (xs (i + 2)) (xs (i + 3)) (xs (i + 4)) = 0 then sightA σ (xs (i + 1)) (xs (i + 2)) (xs (i + 3)) (xs (i + 4)) else 0))])
      refine lv_istore (lv' := [(6, .int (nI (if fTell σ (xs (i + 1)) (xs (i + 2)) (xs (i + 3)) (xs (i + 4)) = 0 then sightA σ (xs (i + 1)) (xs (i + 2)) (xs (i + 3)) (xs (i + 4)) else 0))), (5, .int (nI (rkm 1 2 3 (fTell σ (xs (i + 1)) (xs (i + 2)) (xs (i + 3)) (xs (i + 4)))))), (0, .ref b), (1, .ref (x 0)), (2, .ref (ma 0)), (3, .ref out), (4, .int (nI i))]) hx hb dL_law_785 hl (by decide) rfl (fun ls hl => ?_)
      refine lv_aload_n hx hb dL_law_787 rfl (lv_at hl 4 rfl) ?_
      obtain ⟨hP, hD⟩ := sw_PD (L := []) (M := (mQ cy ma r9 (sightR σ (xs (i + 1)) (xs (i + 2)) (xs (i + 3)) (xs (i + 4)) (!decide (xs (i + 5) = 0))) (if fTell σ (xs (i + 1)) (xs (i + 2)) (xs (i + 3)) (xs (i + 4)) = 0 then hiN n else n) fl tx ln)) (T := ([aJ cy out 1 u.1] ++ fQ cy x a tr s0 s1 pa u.2 (sightR σ (xs (i + 1)) (xs (i + 2)) (xs (i + 3)) (xs (i + 4)) (!decide (xs (i + 5) = 0))) (if fTell σ (xs (i + 1)) (xs (i + 2)) (xs (i + 3)) (xs (i + 4)) = 0 then hiN n else n) fl tx ln)) hP hD
      have hP : va_P g vwCl (([aJ cy out 1 u.1] ++ fQ cy x a tr s0 s1 pa u.2 (sightR σ (xs (i + 1)) (xs (i + 2)) (xs (i + 3)) (xs (i + 4)) (!decide (xs (i + 5) = 0))) (if fTell σ (xs (i + 1)) (xs (i + 2)) (xs (i + 3)) (xs (i + 4)) = 0 then hiN n else n) fl tx ln) ++ (mQ cy ma r9 (sightR σ (xs (i + 1)) (xs (i + 2)) (xs (i + 3)) (xs (i + 4)) (!decide (xs (i + 5) = 0))) (if fTell σ (xs (i + 1)) (xs (i + 2)) (xs (i + 3)) (xs (i + 4)) = 0 then hiN n else n) fl tx ln)) H := hP
      have hD : va_D A (([aJ cy out 1 u.1] ++ fQ cy x a tr s0 s1 pa u.2 (sightR σ (xs (i + 1)) (xs (i + 2)) (xs (i + 3)) (xs (i + 4)) (!decide (xs (i + 5) = 0))) (if fTell σ (xs (i + 1)) (xs (i + 2)) (xs (i + 3)) (xs (i + 4)) = 0 then hiN n else n) fl tx ln) ++ (mQ cy ma r9 (sightR σ (xs (i + 1)) (xs (i + 2)) (xs (i + 3)) (xs (i + 4)) (!decide (xs (i + 5) = 0))) (if fTell σ (xs (i + 1)) (xs (i + 2)) (xs (i + 3)) (xs (i + 4)) = 0 then hiN n else n) fl tx ln)) := hD
      refine rd_call (va_runV (As := []) (rest := []) ⟨hx, hb, hml, hown, hts⟩ (c_X8_thrown l g cy H.size ma r9.1 r9.2.1 r9.2.2.1 r9.2.2.2.1 r9.2.2.2.2.1 r9.2.2.2.2.2.1 r9.2.2.2.2.2.2.1 r9.2.2.2.2.2.2.2 (sightR σ (xs (i + 1)) (xs (i + 2)) (xs (i + 3)) (xs (i + 4)) (!decide (xs (i + 5) = 0))) (if fTell σ (xs (i + 1)) (xs (i + 2)) (xs (i + 3)) (xs (i + 4)) = 0 then hiN n else n) fl tx ln) ⟨cB 0 hts wd8_2 wd1_5 wd7_23 rfl rfl (by decide +kernel) ⟨Nat.le_of_ble_eq_true rfl, Nat.le_of_ble_eq_true rfl⟩, hts _ wd8_0, hts _ wd8_1⟩ (pvS (wc := (mQ cy ma r9 (sightR σ (xs (i + 1)) (xs (i + 2)) (xs (i + 3)) (xs (i + 4)) (!decide (xs (i + 5) = 0))) (if fTell σ (xs (i + 1)) (xs (i + 2)) (xs (i + 3)) (xs (i + 4)) = 0 then hiN n else n) fl tx ln)) hK hP hD hS hA hX 6 rfl rfl) rfl rfl hl.1 rfl (lv_room (Nat.le_of_ble_eq_true rfl)) dL_law_788 ⟨by show _ ≤ 601024; omega, by show _ ≤ 7293033; omega⟩) ?_
      obtain ⟨hP, hD⟩ := sw_PD (L := []) (M := ([aJ cy out 1 u.1] ++ fQ cy x a tr s0 s1 pa u.2 (sightR σ (xs (i + 1)) (xs (i + 2)) (xs (i + 3)) (xs (i + 4)) (!decide (xs (i + 5) = 0))) (if fTell σ (xs (i + 1)) (xs (i + 2)) (xs (i + 3)) (xs (i + 4)) = 0 then hiN n else n) fl tx ln)) (T := (mQ cy ma r9 (sightR σ (xs (i + 1)) (xs (i + 2)) (xs (i + 3)) (xs (i + 4)) (!decide (xs (i + 5) = 0))) (if fTell σ (xs (i + 1)) (xs (i + 2)) (xs (i + 3)) (xs (i + 4)) = 0 then hiN n else n) fl tx ln)) hP hD
      have hP : va_P g vwCl ((mQ cy ma r9 (sightR σ (xs (i + 1)) (xs (i + 2)) (xs (i + 3)) (xs (i + 4)) (!decide (xs (i + 5) = 0))) (if fTell σ (xs (i + 1)) (xs (i + 2)) (xs (i + 3)) (xs (i + 4)) = 0 then hiN n else n) fl tx ln) ++ ([aJ cy out 1 u.1] ++ fQ cy x a tr s0 s1 pa u.2 (sightR σ (xs (i + 1)) (xs (i + 2)) (xs (i + 3)) (xs (i + 4)) (!decide (xs (i + 5) = 0))) (if fTell σ (xs (i + 1)) (xs (i + 2)) (xs (i + 3)) (xs (i + 4)) = 0 then hiN n else n) fl tx ln)) H := hP
      have hD : va_D A ((mQ cy ma r9 (sightR σ (xs (i + 1)) (xs (i + 2)) (xs (i + 3)) (xs (i + 4)) (!decide (xs (i + 5) = 0))) (if fTell σ (xs (i + 1)) (xs (i + 2)) (xs (i + 3)) (xs (i + 4)) = 0 then hiN n else n) fl tx ln) ++ ([aJ cy out 1 u.1] ++ fQ cy x a tr s0 s1 pa u.2 (sightR σ (xs (i + 1)) (xs (i + 2)) (xs (i + 3)) (xs (i + 4)) (!decide (xs (i + 5) = 0))) (if fTell σ (xs (i + 1)) (xs (i + 2)) (xs (i + 3)) (xs (i + 4)) = 0 then hiN n else n) fl tx ln)) := hD
      refine ti (show nI r9.2.2.2.2.2.2.2 = nI (rkm 1 2 3 (fTell σ (xs (i + 1)) (xs (i + 2)) (xs (i + 3)) (xs (i + 4)))) from congrArg nI hr9.1) ?_
      show W _ _ _ _ _ _ _ _ _ _ _ _ _ _ _ (F0 mX 791 ls [.int (nI (rkm 1 2 3 (fTell σ (xs (i + 1)) (xs (i + 2)) (xs (i + 3)) (xs (i + 4)))))])
      refine lv_iload hx hb dL_law_791 (lv_at hl 1 rfl) ?_
      refine lv_icmp_eq (tgt := 798) hx hb dL_law_793 (by decide) (fun c_793 => ?_) (fun c_793 => ?_)
      · have c_793 := (nc_eq9 (by omega) (by omega) c_793)
        refine lv_iload hx hb dL_law_798 (lv_at hl 1 rfl) ?_
        refine lv_if_ne (tgt := 815) hx hb dL_law_800 (by decide) (fun c_800 => ?_) (fun c_800 => ?_)
        · have c_800 := (nz_ne c_800 (by omega))
          refine lv_goto (tgt := 1691) hx hb dL_law_815 (by decide) ?_
          exact kk u.2 (r9) (sightR σ (xs (i + 1)) (xs (i + 2)) (xs (i + 3)) (xs (i + 4)) (!decide (xs (i + 5) = 0))) (if fTell σ (xs (i + 1)) (xs (i + 2)) (xs (i + 3)) (xs (i + 4)) = 0 then hiH Hh n σ else Hh) (if fTell σ (xs (i + 1)) (xs (i + 2)) (xs (i + 3)) (xs (i + 4)) = 0 then hiN n else n) K fl tx ln u.1 H locs ls (fI_mono hu.2 (by (try split) <;> omega) (by omega)) (mI_mono hr9.2 (by (try split) <;> omega) (by omega)) hP hD hS (lv_sub hl [2, 3, 4, 5, 6] rfl)
        · have c_800 := (nz_eq c_800 (by omega))
          have c_800 : rkm 1 2 3 (fTell σ (xs (i + 1)) (xs (i + 2)) (xs (i + 3)) (xs (i + 4))) = 0 := c_800
          have hz9 : fTell σ (xs (i + 1)) (xs (i + 2)) (xs (i + 3)) (xs (i + 4)) = 0 := rkm_z (by unfold fTell rkm; (repeat' split) <;> omega) c_800
          refine lv_aload_n hx hb dL_law_803 rfl (lv_at hl 5 rfl) ?_
          refine lv_iconst (v := (nI 0)) hx hb dL_law_804 (by decide) ?_
          refine va_lald hx hb hK hP 9 3 rfl rfl (vp_in_nI (n := 0) (by omega) (by omega)) dL_law_805 ?_
          refine tl (show u.1 (nI 0).toNatClampNeg = ((nI (sightA σ (xs (i + 1)) (xs (i + 2)) (xs (i + 3)) (xs (i + 4)))) : Int32).toInt64 from by rw [nI_clamp (by omega)]; exact hu.1 hz9) ?_
          refine lv_iload hx hb dL_law_806 (lv_at hl 0 rfl) ?_
          refine ti (show (nI (if fTell σ (xs (i + 1)) (xs (i + 2)) (xs (i + 3)) (xs (i + 4)) = 0 then sightA σ (xs (i + 1)) (xs (i + 2)) (xs (i + 3)) (xs (i + 4)) else 0)) = (nI (sightA σ (xs (i + 1)) (xs (i + 2)) (xs (i + 3)) (xs (i + 4)))) from (by rw [if_pos hz9])) ?_
          refine lv_i2l (v := (nI (sightA σ (xs (i + 1)) (xs (i + 2)) (xs (i + 3)) (xs (i + 4)))).toInt64) hx hb dL_law_808 rfl ?_
          refine W.lcmp hx hb dL_law_809 ?_
          refine lv_if_eq (tgt := 815) hx hb dL_law_810 (by decide) (fun c_810 => ?_) (fun c_810 => ?_)
          · have c_810 := lc_eq c_810
            refine lv_goto (tgt := 1691) hx hb dL_law_815 (by decide) ?_
            exact kk u.2 (r9) (sightR σ (xs (i + 1)) (xs (i + 2)) (xs (i + 3)) (xs (i + 4)) (!decide (xs (i + 5) = 0))) (if fTell σ (xs (i + 1)) (xs (i + 2)) (xs (i + 3)) (xs (i + 4)) = 0 then hiH Hh n σ else Hh) (if fTell σ (xs (i + 1)) (xs (i + 2)) (xs (i + 3)) (xs (i + 4)) = 0 then hiN n else n) K fl tx ln u.1 H locs ls (fI_mono hu.2 (by (try split) <;> omega) (by omega)) (mI_mono hr9.2 (by (try split) <;> omega) (by omega)) hP hD hS (lv_sub hl [2, 3, 4, 5, 6] rfl)
          · have c_810 := lc_ne c_810
            exact absurd rfl c_810
      · have c_793 := (nc_ne9 (by omega) (by omega) c_793)
        exact absurd rfl c_793
    · skip
      refine lv_aload_n hx hb dL_law_768 rfl (lv_at hl 1 rfl) ?_
      refine lv_iload hx hb dL_law_769 (lv_at hl 5 rfl) ?_
      refine lv_iconst (v := (nI 5)) hx hb dL_law_771 (by decide) ?_
      refine lv_iadd hx hb dL_law_772 ?_
      refine ti (nI_add i 5) ?_
      refine va_sld hx hb hXs hbl hbA hS (vp_in_nI (n := (i + 5)) (by omega) (by omega)) dL_law_773 ?_
      refine ti (show xs (nI (i + 5)).toNatClampNeg = xs (i + 5) from by rw [nI_clamp (by omega)]) ?_
      refine lv_if_eq (tgt := 781) hx hb dL_law_774 (by decide) (fun c_774 => ?_) (fun c_774 => ?_)
      · skip
        refine lv_iconst (v := (nI 0)) hx hb dL_law_781 (by decide) ?_
        exact jn782 _ (by simp [bI, nI_0, nI_o, c_774])
      · skip
        refine lv_iconst (v := (nI 1)) hx hb dL_law_777 (by decide) ?_
        refine lv_goto (tgt := 782) hx hb dL_law_778 (by decide) ?_
        exact jn782 _ (by simp [bI, nI_0, nI_o, c_774])
  · skip
    refine lv_aload_n hx hb dL_law_723 rfl (lv_at hl 0 rfl) ?_
    refine lv_iload hx hb dL_law_724 (lv_at hl 4 rfl) ?_
    refine lv_iconst (v := (nI 5)) hx hb dL_law_726 (by decide) ?_
    refine lv_iadd hx hb dL_law_727 ?_
    refine ti (nI_add i 5) ?_
    refine va_sld hx hb hXs hbl hbA hS (vp_in_nI (n := (i + 5)) (by omega) (by omega)) dL_law_728 ?_
    refine ti (show xs (nI (i + 5)).toNatClampNeg = xs (i + 5) from by rw [nI_clamp (by omega)]) ?_
    refine lv_if_eq (tgt := 736) hx hb dL_law_729 (by decide) (fun c_729 => ?_) (fun c_729 => ?_)
    · skip
      refine lv_iconst (v := (nI 0)) hx hb dL_law_736 (by decide) ?_
      exact jn737 _ (by simp [bI, nI_0, nI_o, c_729])
    · skip
      refine lv_iconst (v := (nI 1)) hx hb dL_law_732 (by decide) ?_
      refine lv_goto (tgt := 737) hx hb dL_law_733 (by decide) ?_
      exact jn737 _ (by simp [bI, nI_0, nI_o, c_729])
set_option maxHeartbeats 4000000 in
set_option maxRecDepth 100000 in
theorem lw_find {pX : Program} {l : Launch} {eX : Env} {s : State} {mX : MethodId} {below : List Frame} {meth : Method} {cX : Code} {b L : Nat} {xs : Nat → Int32} {QX : State → Prop} {A : Nat → Prop} (hfl : l.stackTraces = false) (g : va_G) (cy : Nat → ClassId) (hx : pX.tables.exec = Jvm.exec) (hb : cX.code = cL_law) (hml : cX.maxLocals = 7) (hown : s.vm.findClass RL = some mX.cls) (hts : ∀ w ∈ wsL_law, w.before #[Value.ref b] s = true) (hA : ∀ q : Nat, s.heap.size ≤ q → A q) (hK : va_K g vwCl (Ty cy) s) (hX : Cx A s s.heap) (hY : Cy s) (hXs : va_X b L xs s s.heap) (hbl : b < s.heap.size) (hbA : ¬ A b) (hL : L ≤ 3072)
    {x a tr s0 s1 ma : Nat → Nat} {pa : Nat → Nat → Nat} {out i bd cells slots : Nat} {q : Sc} {r : Mc} {σ : Nat → Nat} {Hh : Nat → Nat → Nat} {n : Nat} {K : Nat → Nat → Nat} {fl : Nat → Bool} {tx : Nat → Nat} {ln : Nat} {f : Nat → Int64} {H : Heap} {locs : List Loc} {ls : Array Slot} (hi : i + 6 ≤ L) (hbd1 : 11880 ≤ bd) (hbd2 : bd ≤ 63000) (hc9 : cells ≤ 10000) (hs9 : slots ≤ 100000) (hI : fI bd q σ Hh n K fl tx ln) (hM : mI bd r σ Hh n K fl tx ln) (hP : va_P g vwCl (mQ cy ma r σ n fl tx ln ++ ([aJ cy out 1 f] ++ fQ cy x a tr s0 s1 pa q σ n fl tx ln)) H) (hD : va_D A (mQ cy ma r σ n fl tx ln ++ ([aJ cy out 1 f] ++ fQ cy x a tr s0 s1 pa q σ n fl tx ln))) (hS : va_S A s.heap H locs) (hl : lv_has ls 7 [(0, .ref b), (1, .ref (x 0)), (2, .ref (ma 0)), (3, .ref out), (4, .int (nI i))])
    (kk : ∀ (q : Sc) (r : Mc) (σ : Nat → Nat) (Hh : Nat → Nat → Nat) (n : Nat) (K : Nat → Nat → Nat) (fl : Nat → Bool) (tx : Nat → Nat) (ln : Nat) (f : Nat → Int64) (H : Heap) (locs : List Loc) (ls : Array Slot), fI (bd + 99) q σ Hh n K fl tx ln → mI (bd + 99) r σ Hh n K fl tx ln → va_P g vwCl (mQ cy ma r σ n fl tx ln ++ ([aJ cy out 1 f] ++ fQ cy x a tr s0 s1 pa q σ n fl tx ln)) H → va_D A (mQ cy ma r σ n fl tx ln ++ ([aJ cy out 1 f] ++ fQ cy x a tr s0 s1 pa q σ n fl tx ln)) → va_S A s.heap H locs → lv_has ls 7 [(0, .ref b), (1, .ref (x 0)), (2, .ref (ma 0)), (3, .ref out), (4, .int (nI i))] → W pX l eX room_1 s mX #[Value.ref b] below meth cX H locs (cells + 1) (slots + 6) QX (F0 mX 1691 ls [])) :
    W pX l eX room_1 s mX #[Value.ref b] below meth cX H locs cells slots QX (F0 mX 818 ls []) := by
  have hl : lv_has ls 7 [(0, .ref b), (1, .ref (x 0)), (2, .ref (ma 0)), (3, .ref out), (4, .int (nI i))] := hl
  refine lv_aload_n hx hb dL_law_818 rfl (lv_at hl 1 rfl) ?_
  refine lv_aload_n hx hb dL_law_819 rfl (lv_at hl 0 rfl) ?_
  refine lv_iload hx hb dL_law_820 (lv_at hl 4 rfl) ?_
  refine lv_iconst (v := (nI 1)) hx hb dL_law_822 (by decide) ?_
  refine lv_iadd hx hb dL_law_823 ?_
  refine ti (nI_add i 1) ?_
  refine va_sld hx hb hXs hbl hbA hS (vp_in_nI (n := (i + 1)) (by omega) (by omega)) dL_law_824 ?_
  refine ti (show xs (nI (i + 1)).toNatClampNeg = xs (i + 1) from by rw [nI_clamp (by omega)]) ?_
  refine lv_aload_n hx hb dL_law_825 rfl (lv_at hl 0 rfl) ?_
  refine lv_iload hx hb dL_law_826 (lv_at hl 4 rfl) ?_
  refine lv_iconst (v := (nI 2)) hx hb dL_law_828 (by decide) ?_
  refine lv_iadd hx hb dL_law_829 ?_
  refine ti (nI_add i 2) ?_
  refine va_sld hx hb hXs hbl hbA hS (vp_in_nI (n := (i + 2)) (by omega) (by omega)) dL_law_830 ?_
  refine ti (show xs (nI (i + 2)).toNatClampNeg = xs (i + 2) from by rw [nI_clamp (by omega)]) ?_
  refine lv_aload_n hx hb dL_law_831 rfl (lv_at hl 0 rfl) ?_
  refine lv_iload hx hb dL_law_832 (lv_at hl 4 rfl) ?_
  refine lv_iconst (v := (nI 3)) hx hb dL_law_834 (by decide) ?_
  refine lv_iadd hx hb dL_law_835 ?_
  refine ti (nI_add i 3) ?_
  refine va_sld hx hb hXs hbl hbA hS (vp_in_nI (n := (i + 3)) (by omega) (by omega)) dL_law_836 ?_
  refine ti (show xs (nI (i + 3)).toNatClampNeg = xs (i + 3) from by rw [nI_clamp (by omega)]) ?_
  refine lv_aload_n hx hb dL_law_837 rfl (lv_at hl 3 rfl) ?_
  refine wr_callS (pre := mQ cy ma r σ n fl tx ln) (wc := ([aJ cy out 1 f] ++ fQ cy x a tr s0 s1 pa q σ n fl tx ln)) (vx_runSW (hh := [(0, 12, 15, 28), (0, 12, 19, 15)]) (As := [.ref (x 0), .int (xs (i + 1)), .int (xs (i + 2)), .int (xs (i + 3)), .ref out]) (rest := []) ⟨hx, hb, hml, hown, hts⟩ (c_L_find l hfl g cy out f x a tr s0 s1 pa H.size bd q σ Hh n K fl tx ln (xs (i + 1)) (xs (i + 2)) (xs (i + 3)) hI ) (vx_cwSW 5 hts (hl_in wd31_14 wd6_9 wd31_12 wd31_13) rfl rfl rfl (by decide +kernel) ⟨Nat.le_of_ble_eq_true rfl, Nat.le_of_ble_eq_true rfl⟩) (ps2 hK hP hD hS hA hX hY _ nd_suffix at_suffix) rfl rfl hl.1 rfl (lv_room (Nat.le_of_ble_eq_true rfl)) dL_law_838 ⟨by show _ ≤ 601024; omega, by show _ ≤ 7293033; omega⟩) hP hD hS hA (fun _ => congrArg (fun z => out :: z) fQ_ad) (fun u H locs hu hP hD hS => ?_)
  have hP : va_P g vwCl (mQ cy ma r σ n fl tx ln ++ ([aJ cy out 1 u.1] ++ fQ cy x a tr s0 s1 pa u.2 (if fFind σ (xs (i + 1)) (xs (i + 2)) (xs (i + 3)) = 0 then findR σ (xs (i + 1)) (xs (i + 2)) (xs (i + 3)) else σ) (if fFind σ (xs (i + 1)) (xs (i + 2)) (xs (i + 3)) = 0 then hiN n else n) fl tx ln)) H := hP
  have hD : va_D A (mQ cy ma r σ n fl tx ln ++ ([aJ cy out 1 u.1] ++ fQ cy x a tr s0 s1 pa u.2 (if fFind σ (xs (i + 1)) (xs (i + 2)) (xs (i + 3)) = 0 then findR σ (xs (i + 1)) (xs (i + 2)) (xs (i + 3)) else σ) (if fFind σ (xs (i + 1)) (xs (i + 2)) (xs (i + 3)) = 0 then hiN n else n) fl tx ln)) := hD
  have hσ9 : (if fFind σ (xs (i + 1)) (xs (i + 2)) (xs (i + 3)) = 0 then findR σ (xs (i + 1)) (xs (i + 2)) (xs (i + 3)) else σ) = findR σ (xs (i + 1)) (xs (i + 2)) (xs (i + 3)) := by
    by_cases h9 : fFind σ (xs (i + 1)) (xs (i + 2)) (xs (i + 3)) = 0
    · rw [if_pos h9]
    · rw [if_neg h9]; exact (if_neg h9).symm
  rw [hσ9] at hP hD hu
  have hP : va_P g vwCl (mQ cy ma r σ n fl tx ln ++ ([aJ cy out 1 u.1] ++ fQ cy x a tr s0 s1 pa u.2 (findR σ (xs (i + 1)) (xs (i + 2)) (xs (i + 3))) (if fFind σ (xs (i + 1)) (xs (i + 2)) (xs (i + 3)) = 0 then hiN n else n) fl tx ln)) H := hP
  have hD : va_D A (mQ cy ma r σ n fl tx ln ++ ([aJ cy out 1 u.1] ++ fQ cy x a tr s0 s1 pa u.2 (findR σ (xs (i + 1)) (xs (i + 2)) (xs (i + 3))) (if fFind σ (xs (i + 1)) (xs (i + 2)) (xs (i + 3)) = 0 then hiN n else n) fl tx ln)) := hD
  have hrk9 : rkm 1 0 2 (fFind σ (xs (i + 1)) (xs (i + 2)) (xs (i + 3))) < 10 := by unfold rkm; (repeat' split) <;> omega
  show W _ _ _ _ _ _ _ _ _ _ _ _ _ _ _ (F0 mX 841 ls [.int (nI (rkm 1 0 2 (fFind σ (xs (i + 1)) (xs (i + 2)) (xs (i + 3)))))])
  refine lv_istore (lv' := [(5, .int (nI (rkm 1 0 2 (fFind σ (xs (i + 1)) (xs (i + 2)) (xs (i + 3)))))), (0, .ref b), (1, .ref (x 0)), (2, .ref (ma 0)), (3, .ref out), (4, .int (nI i))]) hx hb dL_law_841 hl (by decide) rfl (fun ls hl => ?_)
  refine lv_aload_n hx hb dL_law_843 rfl (lv_at hl 3 rfl) ?_
  refine lv_aload_n hx hb dL_law_844 rfl (lv_at hl 1 rfl) ?_
  refine lv_iload hx hb dL_law_845 (lv_at hl 5 rfl) ?_
  refine lv_iconst (v := (nI 1)) hx hb dL_law_847 (by decide) ?_
  refine lv_iadd hx hb dL_law_848 ?_
  refine ti (nI_add i 1) ?_
  refine va_sld hx hb hXs hbl hbA hS (vp_in_nI (n := (i + 1)) (by omega) (by omega)) dL_law_849 ?_
  refine ti (show xs (nI (i + 1)).toNatClampNeg = xs (i + 1) from by rw [nI_clamp (by omega)]) ?_
  refine lv_aload_n hx hb dL_law_850 rfl (lv_at hl 1 rfl) ?_
  refine lv_iload hx hb dL_law_851 (lv_at hl 5 rfl) ?_
  refine lv_iconst (v := (nI 2)) hx hb dL_law_853 (by decide) ?_
  refine lv_iadd hx hb dL_law_854 ?_
  refine ti (nI_add i 2) ?_
  refine va_sld hx hb hXs hbl hbA hS (vp_in_nI (n := (i + 2)) (by omega) (by omega)) dL_law_855 ?_
  refine ti (show xs (nI (i + 2)).toNatClampNeg = xs (i + 2) from by rw [nI_clamp (by omega)]) ?_
  refine lv_aload_n hx hb dL_law_856 rfl (lv_at hl 1 rfl) ?_
  refine lv_iload hx hb dL_law_857 (lv_at hl 5 rfl) ?_
  refine lv_iconst (v := (nI 3)) hx hb dL_law_859 (by decide) ?_
  refine lv_iadd hx hb dL_law_860 ?_
  refine ti (nI_add i 3) ?_
  refine va_sld hx hb hXs hbl hbA hS (vp_in_nI (n := (i + 3)) (by omega) (by omega)) dL_law_861 ?_
  refine ti (show xs (nI (i + 3)).toNatClampNeg = xs (i + 3) from by rw [nI_clamp (by omega)]) ?_
  obtain ⟨hP, hD⟩ := sw_PD (L := []) (M := mQ cy ma r σ n fl tx ln) (T := ([aJ cy out 1 u.1] ++ fQ cy x a tr s0 s1 pa u.2 (findR σ (xs (i + 1)) (xs (i + 2)) (xs (i + 3))) (if fFind σ (xs (i + 1)) (xs (i + 2)) (xs (i + 3)) = 0 then hiN n else n) fl tx ln)) hP hD
  have hP : va_P g vwCl (([aJ cy out 1 u.1] ++ fQ cy x a tr s0 s1 pa u.2 (findR σ (xs (i + 1)) (xs (i + 2)) (xs (i + 3))) (if fFind σ (xs (i + 1)) (xs (i + 2)) (xs (i + 3)) = 0 then hiN n else n) fl tx ln) ++ mQ cy ma r σ n fl tx ln) H := hP
  have hD : va_D A (([aJ cy out 1 u.1] ++ fQ cy x a tr s0 s1 pa u.2 (findR σ (xs (i + 1)) (xs (i + 2)) (xs (i + 3))) (if fFind σ (xs (i + 1)) (xs (i + 2)) (xs (i + 3)) = 0 then hiN n else n) fl tx ln) ++ mQ cy ma r σ n fl tx ln) := hD
  refine wr_callS (pre := ([aJ cy out 1 u.1] ++ fQ cy x a tr s0 s1 pa u.2 (findR σ (xs (i + 1)) (xs (i + 2)) (xs (i + 3))) (if fFind σ (xs (i + 1)) (xs (i + 2)) (xs (i + 3)) = 0 then hiN n else n) fl tx ln)) (wc := mQ cy ma r σ n fl tx ln) (va_runV (As := [.int (xs (i + 1)), .int (xs (i + 2)), .int (xs (i + 3))]) (rest := []) ⟨hx, hb, hml, hown, hts⟩ (c_X8_find l g cy ma H.size bd r σ Hh n K fl tx ln (xs (i + 1)) (xs (i + 2)) (xs (i + 3)) hM ) ⟨cB 3 hts wd32_0 wd1_5 wd31_21 rfl rfl (by decide +kernel) ⟨Nat.le_of_ble_eq_true rfl, Nat.le_of_ble_eq_true rfl⟩, hts _ wd31_22, hts _ wd31_23⟩ (pvS hK hP hD hS hA hX 6 rfl rfl) rfl rfl hl.1 rfl (lv_room (Nat.le_of_ble_eq_true rfl)) dL_law_862 ⟨by show _ ≤ 601024; omega, by show _ ≤ 7293033; omega⟩) hP hD hS hA (fun _ => mQ_ad) (fun r9 H locs hr9 hP hD hS => ?_)
  have hP : va_P g vwCl (([aJ cy out 1 u.1] ++ fQ cy x a tr s0 s1 pa u.2 (findR σ (xs (i + 1)) (xs (i + 2)) (xs (i + 3))) (if fFind σ (xs (i + 1)) (xs (i + 2)) (xs (i + 3)) = 0 then hiN n else n) fl tx ln) ++ (mQ cy ma r9 (findR σ (xs (i + 1)) (xs (i + 2)) (xs (i + 3))) (if fFind σ (xs (i + 1)) (xs (i + 2)) (xs (i + 3)) = 0 then hiN n else n) fl tx ln)) H := hP
  have hD : va_D A (([aJ cy out 1 u.1] ++ fQ cy x a tr s0 s1 pa u.2 (findR σ (xs (i + 1)) (xs (i + 2)) (xs (i + 3))) (if fFind σ (xs (i + 1)) (xs (i + 2)) (xs (i + 3)) = 0 then hiN n else n) fl tx ln) ++ (mQ cy ma r9 (findR σ (xs (i + 1)) (xs (i + 2)) (xs (i + 3))) (if fFind σ (xs (i + 1)) (xs (i + 2)) (xs (i + 3)) = 0 then hiN n else n) fl tx ln)) := hD
  obtain ⟨hP, hD⟩ := sw_PD (L := []) (M := ([aJ cy out 1 u.1] ++ fQ cy x a tr s0 s1 pa u.2 (findR σ (xs (i + 1)) (xs (i + 2)) (xs (i + 3))) (if fFind σ (xs (i + 1)) (xs (i + 2)) (xs (i + 3)) = 0 then hiN n else n) fl tx ln)) (T := (mQ cy ma r9 (findR σ (xs (i + 1)) (xs (i + 2)) (xs (i + 3))) (if fFind σ (xs (i + 1)) (xs (i + 2)) (xs (i + 3)) = 0 then hiN n else n) fl tx ln)) hP hD
  have hP : va_P g vwCl ((mQ cy ma r9 (findR σ (xs (i + 1)) (xs (i + 2)) (xs (i + 3))) (if fFind σ (xs (i + 1)) (xs (i + 2)) (xs (i + 3)) = 0 then hiN n else n) fl tx ln) ++ ([aJ cy out 1 u.1] ++ fQ cy x a tr s0 s1 pa u.2 (findR σ (xs (i + 1)) (xs (i + 2)) (xs (i + 3))) (if fFind σ (xs (i + 1)) (xs (i + 2)) (xs (i + 3)) = 0 then hiN n else n) fl tx ln)) H := hP
  have hD : va_D A ((mQ cy ma r9 (findR σ (xs (i + 1)) (xs (i + 2)) (xs (i + 3))) (if fFind σ (xs (i + 1)) (xs (i + 2)) (xs (i + 3)) = 0 then hiN n else n) fl tx ln) ++ ([aJ cy out 1 u.1] ++ fQ cy x a tr s0 s1 pa u.2 (findR σ (xs (i + 1)) (xs (i + 2)) (xs (i + 3))) (if fFind σ (xs (i + 1)) (xs (i + 2)) (xs (i + 3)) = 0 then hiN n else n) fl tx ln)) := hD
  show W _ _ _ _ _ _ _ _ _ _ _ _ _ _ _ (F0 mX 865 ls [.int (nI (if fFind σ (xs (i + 1)) (xs (i + 2)) (xs (i + 3)) = 0 then findA σ (xs (i + 1)) (xs (i + 2)) (xs (i + 3)) else 0))])
  refine lv_istore (lv' := [(6, .int (nI (if fFind σ (xs (i + 1)) (xs (i + 2)) (xs (i + 3)) = 0 then findA σ (xs (i + 1)) (xs (i + 2)) (xs (i + 3)) else 0))), (5, .int (nI (rkm 1 0 2 (fFind σ (xs (i + 1)) (xs (i + 2)) (xs (i + 3)))))), (0, .ref b), (1, .ref (x 0)), (2, .ref (ma 0)), (3, .ref out), (4, .int (nI i))]) hx hb dL_law_865 hl (by decide) rfl (fun ls hl => ?_)
  refine lv_aload_n hx hb dL_law_867 rfl (lv_at hl 4 rfl) ?_
  obtain ⟨hP, hD⟩ := sw_PD (L := []) (M := (mQ cy ma r9 (findR σ (xs (i + 1)) (xs (i + 2)) (xs (i + 3))) (if fFind σ (xs (i + 1)) (xs (i + 2)) (xs (i + 3)) = 0 then hiN n else n) fl tx ln)) (T := ([aJ cy out 1 u.1] ++ fQ cy x a tr s0 s1 pa u.2 (findR σ (xs (i + 1)) (xs (i + 2)) (xs (i + 3))) (if fFind σ (xs (i + 1)) (xs (i + 2)) (xs (i + 3)) = 0 then hiN n else n) fl tx ln)) hP hD
  have hP : va_P g vwCl (([aJ cy out 1 u.1] ++ fQ cy x a tr s0 s1 pa u.2 (findR σ (xs (i + 1)) (xs (i + 2)) (xs (i + 3))) (if fFind σ (xs (i + 1)) (xs (i + 2)) (xs (i + 3)) = 0 then hiN n else n) fl tx ln) ++ (mQ cy ma r9 (findR σ (xs (i + 1)) (xs (i + 2)) (xs (i + 3))) (if fFind σ (xs (i + 1)) (xs (i + 2)) (xs (i + 3)) = 0 then hiN n else n) fl tx ln)) H := hP
  have hD : va_D A (([aJ cy out 1 u.1] ++ fQ cy x a tr s0 s1 pa u.2 (findR σ (xs (i + 1)) (xs (i + 2)) (xs (i + 3))) (if fFind σ (xs (i + 1)) (xs (i + 2)) (xs (i + 3)) = 0 then hiN n else n) fl tx ln) ++ (mQ cy ma r9 (findR σ (xs (i + 1)) (xs (i + 2)) (xs (i + 3))) (if fFind σ (xs (i + 1)) (xs (i + 2)) (xs (i + 3)) = 0 then hiN n else n) fl tx ln)) := hD
  refine rd_call (va_runV (As := []) (rest := []) ⟨hx, hb, hml, hown, hts⟩ (c_X8_thrown l g cy H.size ma r9.1 r9.2.1 r9.2.2.1 r9.2.2.2.1 r9.2.2.2.2.1 r9.2.2.2.2.2.1 r9.2.2.2.2.2.2.1 r9.2.2.2.2.2.2.2 (findR σ (xs (i + 1)) (xs (i + 2)) (xs (i + 3))) (if fFind σ (xs (i + 1)) (xs (i + 2)) (xs (i + 3)) = 0 then hiN n else n) fl tx ln) ⟨cB 0 hts wd8_2 wd1_5 wd7_23 rfl rfl (by decide +kernel) ⟨Nat.le_of_ble_eq_true rfl, Nat.le_of_ble_eq_true rfl⟩, hts _ wd8_0, hts _ wd8_1⟩ (pvS (wc := (mQ cy ma r9 (findR σ (xs (i + 1)) (xs (i + 2)) (xs (i + 3))) (if fFind σ (xs (i + 1)) (xs (i + 2)) (xs (i + 3)) = 0 then hiN n else n) fl tx ln)) hK hP hD hS hA hX 6 rfl rfl) rfl rfl hl.1 rfl (lv_room (Nat.le_of_ble_eq_true rfl)) dL_law_868 ⟨by show _ ≤ 601024; omega, by show _ ≤ 7293033; omega⟩) ?_
  obtain ⟨hP, hD⟩ := sw_PD (L := []) (M := ([aJ cy out 1 u.1] ++ fQ cy x a tr s0 s1 pa u.2 (findR σ (xs (i + 1)) (xs (i + 2)) (xs (i + 3))) (if fFind σ (xs (i + 1)) (xs (i + 2)) (xs (i + 3)) = 0 then hiN n else n) fl tx ln)) (T := (mQ cy ma r9 (findR σ (xs (i + 1)) (xs (i + 2)) (xs (i + 3))) (if fFind σ (xs (i + 1)) (xs (i + 2)) (xs (i + 3)) = 0 then hiN n else n) fl tx ln)) hP hD
  have hP : va_P g vwCl ((mQ cy ma r9 (findR σ (xs (i + 1)) (xs (i + 2)) (xs (i + 3))) (if fFind σ (xs (i + 1)) (xs (i + 2)) (xs (i + 3)) = 0 then hiN n else n) fl tx ln) ++ ([aJ cy out 1 u.1] ++ fQ cy x a tr s0 s1 pa u.2 (findR σ (xs (i + 1)) (xs (i + 2)) (xs (i + 3))) (if fFind σ (xs (i + 1)) (xs (i + 2)) (xs (i + 3)) = 0 then hiN n else n) fl tx ln)) H := hP
  have hD : va_D A ((mQ cy ma r9 (findR σ (xs (i + 1)) (xs (i + 2)) (xs (i + 3))) (if fFind σ (xs (i + 1)) (xs (i + 2)) (xs (i + 3)) = 0 then hiN n else n) fl tx ln) ++ ([aJ cy out 1 u.1] ++ fQ cy x a tr s0 s1 pa u.2 (findR σ (xs (i + 1)) (xs (i + 2)) (xs (i + 3))) (if fFind σ (xs (i + 1)) (xs (i + 2)) (xs (i + 3)) = 0 then hiN n else n) fl tx ln)) := hD
  refine ti (show nI r9.2.2.2.2.2.2.2 = nI (rkm 1 0 2 (fFind σ (xs (i + 1)) (xs (i + 2)) (xs (i + 3)))) from congrArg nI hr9.1) ?_
  show W _ _ _ _ _ _ _ _ _ _ _ _ _ _ _ (F0 mX 871 ls [.int (nI (rkm 1 0 2 (fFind σ (xs (i + 1)) (xs (i + 2)) (xs (i + 3)))))])
  refine lv_iload hx hb dL_law_871 (lv_at hl 1 rfl) ?_
  refine lv_icmp_eq (tgt := 878) hx hb dL_law_873 (by decide) (fun c_873 => ?_) (fun c_873 => ?_)
  · have c_873 := (nc_eq9 (by omega) (by omega) c_873)
    refine lv_iload hx hb dL_law_878 (lv_at hl 1 rfl) ?_
    refine lv_if_ne (tgt := 895) hx hb dL_law_880 (by decide) (fun c_880 => ?_) (fun c_880 => ?_)
    · have c_880 := (nz_ne c_880 (by omega))
      refine lv_goto (tgt := 1691) hx hb dL_law_895 (by decide) ?_
      exact kk u.2 (r9) (findR σ (xs (i + 1)) (xs (i + 2)) (xs (i + 3))) (if fFind σ (xs (i + 1)) (xs (i + 2)) (xs (i + 3)) = 0 then hiH Hh n σ else Hh) (if fFind σ (xs (i + 1)) (xs (i + 2)) (xs (i + 3)) = 0 then hiN n else n) K fl tx ln u.1 H locs ls (fI_mono hu.2 (by (try split) <;> omega) (by omega)) (mI_mono hr9.2 (by (try split) <;> omega) (by omega)) hP hD hS (lv_sub hl [2, 3, 4, 5, 6] rfl)
    · have c_880 := (nz_eq c_880 (by omega))
      have c_880 : rkm 1 0 2 (fFind σ (xs (i + 1)) (xs (i + 2)) (xs (i + 3))) = 0 := c_880
      have hz9 : fFind σ (xs (i + 1)) (xs (i + 2)) (xs (i + 3)) = 0 := rkm_z (by unfold fFind fAsk rkm; (repeat' split) <;> omega) c_880
      refine lv_aload_n hx hb dL_law_883 rfl (lv_at hl 5 rfl) ?_
      refine lv_iconst (v := (nI 0)) hx hb dL_law_884 (by decide) ?_
      refine va_lald hx hb hK hP 9 3 rfl rfl (vp_in_nI (n := 0) (by omega) (by omega)) dL_law_885 ?_
      refine tl (show u.1 (nI 0).toNatClampNeg = ((nI (findA σ (xs (i + 1)) (xs (i + 2)) (xs (i + 3)))) : Int32).toInt64 from by rw [nI_clamp (by omega)]; exact hu.1 hz9) ?_
      refine lv_iload hx hb dL_law_886 (lv_at hl 0 rfl) ?_
      refine ti (show (nI (if fFind σ (xs (i + 1)) (xs (i + 2)) (xs (i + 3)) = 0 then findA σ (xs (i + 1)) (xs (i + 2)) (xs (i + 3)) else 0)) = (nI (findA σ (xs (i + 1)) (xs (i + 2)) (xs (i + 3)))) from (by rw [if_pos hz9])) ?_
      refine lv_i2l (v := (nI (findA σ (xs (i + 1)) (xs (i + 2)) (xs (i + 3)))).toInt64) hx hb dL_law_888 rfl ?_
      refine W.lcmp hx hb dL_law_889 ?_
      refine lv_if_eq (tgt := 895) hx hb dL_law_890 (by decide) (fun c_890 => ?_) (fun c_890 => ?_)
      · have c_890 := lc_eq c_890
        refine lv_goto (tgt := 1691) hx hb dL_law_895 (by decide) ?_
        exact kk u.2 (r9) (findR σ (xs (i + 1)) (xs (i + 2)) (xs (i + 3))) (if fFind σ (xs (i + 1)) (xs (i + 2)) (xs (i + 3)) = 0 then hiH Hh n σ else Hh) (if fFind σ (xs (i + 1)) (xs (i + 2)) (xs (i + 3)) = 0 then hiN n else n) K fl tx ln u.1 H locs ls (fI_mono hu.2 (by (try split) <;> omega) (by omega)) (mI_mono hr9.2 (by (try split) <;> omega) (by omega)) hP hD hS (lv_sub hl [2, 3, 4, 5, 6] rfl)
      · have c_890 := lc_ne c_890
        exact absurd rfl c_890
  · have c_873 := (nc_ne9 (by omega) (by omega) c_873)
    exact absurd rfl c_873
set_option maxHeartbeats 4000000 in
set_option maxRecDepth 100000 in
theorem lw_close {pX : Program} {l : Launch} {eX : Env} {s : State} {mX : MethodId} {below : List Frame} {meth : Method} {cX : Code} {b L : Nat} {xs : Nat → Int32} {QX : State → Prop} {A : Nat → Prop} (hfl : l.stackTraces = false) (g : va_G) (cy : Nat → ClassId) (hx : pX.tables.exec = Jvm.exec) (hb : cX.code = cL_law) (hml : cX.maxLocals = 7) (hown : s.vm.findClass RL = some mX.cls) (hts : ∀ w ∈ wsL_law, w.before #[Value.ref b] s = true) (hA : ∀ q : Nat, s.heap.size ≤ q → A q) (hK : va_K g vwCl (Ty cy) s) (hX : Cx A s s.heap) (hY : Cy s) (hXs : va_X b L xs s s.heap) (hbl : b < s.heap.size) (hbA : ¬ A b) (hL : L ≤ 3072)
    {x a tr s0 s1 ma : Nat → Nat} {pa : Nat → Nat → Nat} {out i bd cells slots : Nat} {q : Sc} {r : Mc} {σ : Nat → Nat} {Hh : Nat → Nat → Nat} {n : Nat} {K : Nat → Nat → Nat} {fl : Nat → Bool} {tx : Nat → Nat} {ln : Nat} {f : Nat → Int64} {H : Heap} {locs : List Loc} {ls : Array Slot} (hi : i + 6 ≤ L) (hbd1 : 11880 ≤ bd) (hbd2 : bd ≤ 63000) (hc9 : cells ≤ 10000) (hs9 : slots ≤ 100000) (hI : fI bd q σ Hh n K fl tx ln) (hM : mI bd r σ Hh n K fl tx ln) (hP : va_P g vwCl (mQ cy ma r σ n fl tx ln ++ ([aJ cy out 1 f] ++ fQ cy x a tr s0 s1 pa q σ n fl tx ln)) H) (hD : va_D A (mQ cy ma r σ n fl tx ln ++ ([aJ cy out 1 f] ++ fQ cy x a tr s0 s1 pa q σ n fl tx ln))) (hS : va_S A s.heap H locs) (hl : lv_has ls 7 [(0, .ref b), (1, .ref (x 0)), (2, .ref (ma 0)), (3, .ref out), (4, .int (nI i))])
    (kk : ∀ (q : Sc) (r : Mc) (σ : Nat → Nat) (Hh : Nat → Nat → Nat) (n : Nat) (K : Nat → Nat → Nat) (fl : Nat → Bool) (tx : Nat → Nat) (ln : Nat) (f : Nat → Int64) (H : Heap) (locs : List Loc) (ls : Array Slot), fI (bd + 99) q σ Hh n K fl tx ln → mI (bd + 99) r σ Hh n K fl tx ln → va_P g vwCl (mQ cy ma r σ n fl tx ln ++ ([aJ cy out 1 f] ++ fQ cy x a tr s0 s1 pa q σ n fl tx ln)) H → va_D A (mQ cy ma r σ n fl tx ln ++ ([aJ cy out 1 f] ++ fQ cy x a tr s0 s1 pa q σ n fl tx ln)) → va_S A s.heap H locs → lv_has ls 7 [(0, .ref b), (1, .ref (x 0)), (2, .ref (ma 0)), (3, .ref out), (4, .int (nI i))] → W pX l eX room_1 s mX #[Value.ref b] below meth cX H locs (cells + 1) (slots + 6) QX (F0 mX 1691 ls [])) :
    W pX l eX room_1 s mX #[Value.ref b] below meth cX H locs cells slots QX (F0 mX 898 ls []) := by
  have hl : lv_has ls 7 [(0, .ref b), (1, .ref (x 0)), (2, .ref (ma 0)), (3, .ref out), (4, .int (nI i))] := hl
  refine lv_aload_n hx hb dL_law_898 rfl (lv_at hl 1 rfl) ?_
  refine lv_aload_n hx hb dL_law_899 rfl (lv_at hl 0 rfl) ?_
  refine lv_iload hx hb dL_law_900 (lv_at hl 4 rfl) ?_
  refine lv_iconst (v := (nI 1)) hx hb dL_law_902 (by decide) ?_
  refine lv_iadd hx hb dL_law_903 ?_
  refine ti (nI_add i 1) ?_
  refine va_sld hx hb hXs hbl hbA hS (vp_in_nI (n := (i + 1)) (by omega) (by omega)) dL_law_904 ?_
  refine ti (show xs (nI (i + 1)).toNatClampNeg = xs (i + 1) from by rw [nI_clamp (by omega)]) ?_
  refine lv_aload_n hx hb dL_law_905 rfl (lv_at hl 0 rfl) ?_
  refine lv_iload hx hb dL_law_906 (lv_at hl 4 rfl) ?_
  refine lv_iconst (v := (nI 2)) hx hb dL_law_908 (by decide) ?_
  refine lv_iadd hx hb dL_law_909 ?_
  refine ti (nI_add i 2) ?_
  refine va_sld hx hb hXs hbl hbA hS (vp_in_nI (n := (i + 2)) (by omega) (by omega)) dL_law_910 ?_
  refine ti (show xs (nI (i + 2)).toNatClampNeg = xs (i + 2) from by rw [nI_clamp (by omega)]) ?_
  refine jn_i (pcj := 925) (ls := ls) (st := [.int (xs (i + 2)), .int (xs (i + 1)), .ref (x 0)]) (fun v9 => v9 = (bI (!decide (xs (i + 3) = 0)))) ?_ (fun jn925 => ?_)
  · intro v9 hv9
    subst hv9
    refine lv_aload_n hx hb dL_law_925 rfl (lv_at hl 3 rfl) ?_
    refine wr_callS (pre := mQ cy ma r σ n fl tx ln) (wc := ([aJ cy out 1 f] ++ fQ cy x a tr s0 s1 pa q σ n fl tx ln)) (vx_runSW (hh := [(0, 12, 15, 28), (0, 12, 19, 13)]) (As := [.ref (x 0), .int (xs (i + 1)), .int (xs (i + 2)), .int (bI (!decide (xs (i + 3) = 0))), .ref out]) (rest := []) ⟨hx, hb, hml, hown, hts⟩ (c_L_close l hfl g cy out f x a tr s0 s1 pa H.size bd q σ Hh n K fl tx ln (xs (i + 1)) (xs (i + 2)) (!decide (xs (i + 3) = 0)) hI ) (vx_cwSW 5 hts (hl_in wd32_3 wd6_9 wd32_1 wd32_2) rfl rfl rfl (by decide +kernel) ⟨Nat.le_of_ble_eq_true rfl, Nat.le_of_ble_eq_true rfl⟩) (ps2 hK hP hD hS hA hX hY _ nd_suffix at_suffix) rfl rfl hl.1 rfl (lv_room (Nat.le_of_ble_eq_true rfl)) dL_law_926 ⟨by show _ ≤ 601024; omega, by show _ ≤ 7293033; omega⟩) hP hD hS hA (fun _ => congrArg (fun z => out :: z) fQ_ad) (fun u H locs hu hP hD hS => ?_)
    have hP : va_P g vwCl (mQ cy ma r σ n fl tx ln ++ ([aJ cy out 1 u.1] ++ fQ cy x a tr s0 s1 pa u.2 (if fClose (xs (i + 1)) (xs (i + 2)) = 0 then closeR σ (xs (i + 1)) (xs (i + 2)) (!decide (xs (i + 3) = 0)) else σ) (if fClose (xs (i + 1)) (xs (i + 2)) = 0 then hiN n else n) fl tx ln)) H := hP
    have hD : va_D A (mQ cy ma r σ n fl tx ln ++ ([aJ cy out 1 u.1] ++ fQ cy x a tr s0 s1 pa u.2 (if fClose (xs (i + 1)) (xs (i + 2)) = 0 then closeR σ (xs (i + 1)) (xs (i + 2)) (!decide (xs (i + 3) = 0)) else σ) (if fClose (xs (i + 1)) (xs (i + 2)) = 0 then hiN n else n) fl tx ln)) := hD
    have hσ9 : (if fClose (xs (i + 1)) (xs (i + 2)) = 0 then closeR σ (xs (i + 1)) (xs (i + 2)) (!decide (xs (i + 3) = 0)) else σ) = closeR σ (xs (i + 1)) (xs (i + 2)) (!decide (xs (i + 3) = 0)) := by
      by_cases h9 : fClose (xs (i + 1)) (xs (i + 2)) = 0
      · rw [if_pos h9]
      · rw [if_neg h9]; exact (if_neg h9).symm
    rw [hσ9] at hP hD hu
    have hP : va_P g vwCl (mQ cy ma r σ n fl tx ln ++ ([aJ cy out 1 u.1] ++ fQ cy x a tr s0 s1 pa u.2 (closeR σ (xs (i + 1)) (xs (i + 2)) (!decide (xs (i + 3) = 0))) (if fClose (xs (i + 1)) (xs (i + 2)) = 0 then hiN n else n) fl tx ln)) H := hP
    have hD : va_D A (mQ cy ma r σ n fl tx ln ++ ([aJ cy out 1 u.1] ++ fQ cy x a tr s0 s1 pa u.2 (closeR σ (xs (i + 1)) (xs (i + 2)) (!decide (xs (i + 3) = 0))) (if fClose (xs (i + 1)) (xs (i + 2)) = 0 then hiN n else n) fl tx ln)) := hD
    have hrk9 : rkm 1 2 0 (fClose (xs (i + 1)) (xs (i + 2))) < 10 := by unfold rkm; (repeat' split) <;> omega
    show W _ _ _ _ _ _ _ _ _ _ _ _ _ _ _ (F0 mX 929 ls [.int (nI (rkm 1 2 0 (fClose (xs (i + 1)) (xs (i + 2)))))])
    refine lv_istore (lv' := [(5, .int (nI (rkm 1 2 0 (fClose (xs (i + 1)) (xs (i + 2)))))), (0, .ref b), (1, .ref (x 0)), (2, .ref (ma 0)), (3, .ref out), (4, .int (nI i))]) hx hb dL_law_929 hl (by decide) rfl (fun ls hl => ?_)
    refine lv_aload_n hx hb dL_law_931 rfl (lv_at hl 3 rfl) ?_
    refine lv_aload_n hx hb dL_law_932 rfl (lv_at hl 1 rfl) ?_
    refine lv_iload hx hb dL_law_933 (lv_at hl 5 rfl) ?_
    refine lv_iconst (v := (nI 1)) hx hb dL_law_935 (by decide) ?_
    refine lv_iadd hx hb dL_law_936 ?_
    refine ti (nI_add i 1) ?_
    refine va_sld hx hb hXs hbl hbA hS (vp_in_nI (n := (i + 1)) (by omega) (by omega)) dL_law_937 ?_
    refine ti (show xs (nI (i + 1)).toNatClampNeg = xs (i + 1) from by rw [nI_clamp (by omega)]) ?_
    refine lv_aload_n hx hb dL_law_938 rfl (lv_at hl 1 rfl) ?_
    refine lv_iload hx hb dL_law_939 (lv_at hl 5 rfl) ?_
    refine lv_iconst (v := (nI 2)) hx hb dL_law_941 (by decide) ?_
    refine lv_iadd hx hb dL_law_942 ?_
    refine ti (nI_add i 2) ?_
    refine va_sld hx hb hXs hbl hbA hS (vp_in_nI (n := (i + 2)) (by omega) (by omega)) dL_law_943 ?_
    refine ti (show xs (nI (i + 2)).toNatClampNeg = xs (i + 2) from by rw [nI_clamp (by omega)]) ?_
    refine jn_i (pcj := 958) (ls := ls) (st := [.int (xs (i + 2)), .int (xs (i + 1)), .ref (ma 0)]) (fun v9 => v9 = (bI (!decide (xs (i + 3) = 0)))) ?_ (fun jn958 => ?_)
    · intro v9 hv9
      subst hv9
      obtain ⟨hP, hD⟩ := sw_PD (L := []) (M := mQ cy ma r σ n fl tx ln) (T := ([aJ cy out 1 u.1] ++ fQ cy x a tr s0 s1 pa u.2 (closeR σ (xs (i + 1)) (xs (i + 2)) (!decide (xs (i + 3) = 0))) (if fClose (xs (i + 1)) (xs (i + 2)) = 0 then hiN n else n) fl tx ln)) hP hD
      have hP : va_P g vwCl (([aJ cy out 1 u.1] ++ fQ cy x a tr s0 s1 pa u.2 (closeR σ (xs (i + 1)) (xs (i + 2)) (!decide (xs (i + 3) = 0))) (if fClose (xs (i + 1)) (xs (i + 2)) = 0 then hiN n else n) fl tx ln) ++ mQ cy ma r σ n fl tx ln) H := hP
      have hD : va_D A (([aJ cy out 1 u.1] ++ fQ cy x a tr s0 s1 pa u.2 (closeR σ (xs (i + 1)) (xs (i + 2)) (!decide (xs (i + 3) = 0))) (if fClose (xs (i + 1)) (xs (i + 2)) = 0 then hiN n else n) fl tx ln) ++ mQ cy ma r σ n fl tx ln) := hD
      refine wr_callS (pre := ([aJ cy out 1 u.1] ++ fQ cy x a tr s0 s1 pa u.2 (closeR σ (xs (i + 1)) (xs (i + 2)) (!decide (xs (i + 3) = 0))) (if fClose (xs (i + 1)) (xs (i + 2)) = 0 then hiN n else n) fl tx ln)) (wc := mQ cy ma r σ n fl tx ln) (va_runV (As := [.int (xs (i + 1)), .int (xs (i + 2)), .int (bI (!decide (xs (i + 3) = 0)))]) (rest := []) ⟨hx, hb, hml, hown, hts⟩ (c_X8_close l g cy ma H.size bd r σ Hh n K fl tx ln (xs (i + 1)) (xs (i + 2)) (!decide (xs (i + 3) = 0)) hM ) ⟨cB 3 hts wd32_13 wd1_5 wd32_10 rfl rfl (by decide +kernel) ⟨Nat.le_of_ble_eq_true rfl, Nat.le_of_ble_eq_true rfl⟩, hts _ wd32_11, hts _ wd32_12⟩ (pvS hK hP hD hS hA hX 6 rfl rfl) rfl rfl hl.1 rfl (lv_room (Nat.le_of_ble_eq_true rfl)) dL_law_958 ⟨by show _ ≤ 601024; omega, by show _ ≤ 7293033; omega⟩) hP hD hS hA (fun _ => mQ_ad) (fun r9 H locs hr9 hP hD hS => ?_)
      have hP : va_P g vwCl (([aJ cy out 1 u.1] ++ fQ cy x a tr s0 s1 pa u.2 (closeR σ (xs (i + 1)) (xs (i + 2)) (!decide (xs (i + 3) = 0))) (if fClose (xs (i + 1)) (xs (i + 2)) = 0 then hiN n else n) fl tx ln) ++ (mQ cy ma r9 (closeR σ (xs (i + 1)) (xs (i + 2)) (!decide (xs (i + 3) = 0))) (if fClose (xs (i + 1)) (xs (i + 2)) = 0 then hiN n else n) fl tx ln)) H := hP
      have hD : va_D A (([aJ cy out 1 u.1] ++ fQ cy x a tr s0 s1 pa u.2 (closeR σ (xs (i + 1)) (xs (i + 2)) (!decide (xs (i + 3) = 0))) (if fClose (xs (i + 1)) (xs (i + 2)) = 0 then hiN n else n) fl tx ln) ++ (mQ cy ma r9 (closeR σ (xs (i + 1)) (xs (i + 2)) (!decide (xs (i + 3) = 0))) (if fClose (xs (i + 1)) (xs (i + 2)) = 0 then hiN n else n) fl tx ln)) := hD
      obtain ⟨hP, hD⟩ := sw_PD (L := []) (M := ([aJ cy out 1 u.1] ++ fQ cy x a tr s0 s1 pa u.2 (closeR σ (xs (i + 1)) (xs (i + 2)) (!decide (xs (i + 3) = 0))) (if fClose (xs (i + 1)) (xs (i + 2)) = 0 then hiN n else n) fl tx ln)) (T := (mQ cy ma r9 (closeR σ (xs (i + 1)) (xs (i + 2)) (!decide (xs (i + 3) = 0))) (if fClose (xs (i + 1)) (xs (i + 2)) = 0 then hiN n else n) fl tx ln)) hP hD
      have hP : va_P g vwCl ((mQ cy ma r9 (closeR σ (xs (i + 1)) (xs (i + 2)) (!decide (xs (i + 3) = 0))) (if fClose (xs (i + 1)) (xs (i + 2)) = 0 then hiN n else n) fl tx ln) ++ ([aJ cy out 1 u.1] ++ fQ cy x a tr s0 s1 pa u.2 (closeR σ (xs (i + 1)) (xs (i + 2)) (!decide (xs (i + 3) = 0))) (if fClose (xs (i + 1)) (xs (i + 2)) = 0 then hiN n else n) fl tx ln)) H := hP
      have hD : va_D A ((mQ cy ma r9 (closeR σ (xs (i + 1)) (xs (i + 2)) (!decide (xs (i + 3) = 0))) (if fClose (xs (i + 1)) (xs (i + 2)) = 0 then hiN n else n) fl tx ln) ++ ([aJ cy out 1 u.1] ++ fQ cy x a tr s0 s1 pa u.2 (closeR σ (xs (i + 1)) (xs (i + 2)) (!decide (xs (i + 3) = 0))) (if fClose (xs (i + 1)) (xs (i + 2)) = 0 then hiN n else n) fl tx ln)) := hD
      show W _ _ _ _ _ _ _ _ _ _ _ _ _ _ _ (F0 mX 961 ls [.int (nI (if fClose (xs (i + 1)) (xs (i + 2)) = 0 then closeA σ (xs (i + 1)) (xs (i + 2)) (!decide (xs (i + 3) = 0)) else 0))])
      refine lv_istore (lv' := [(6, .int (nI (if fClose (xs (i + 1)) (xs (i + 2)) = 0 then closeA σ (xs (i + 1)) (xs (i + 2)) (!decide (xs (i + 3) = 0)) else 0))), (5, .int (nI (rkm 1 2 0 (fClose (xs (i + 1)) (xs (i + 2)))))), (0, .ref b), (1, .ref (x 0)), (2, .ref (ma 0)), (3, .ref out), (4, .int (nI i))]) hx hb dL_law_961 hl (by decide) rfl (fun ls hl => ?_)
      refine lv_aload_n hx hb dL_law_963 rfl (lv_at hl 4 rfl) ?_
      obtain ⟨hP, hD⟩ := sw_PD (L := []) (M := (mQ cy ma r9 (closeR σ (xs (i + 1)) (xs (i + 2)) (!decide (xs (i + 3) = 0))) (if fClose (xs (i + 1)) (xs (i + 2)) = 0 then hiN n else n) fl tx ln)) (T := ([aJ cy out 1 u.1] ++ fQ cy x a tr s0 s1 pa u.2 (closeR σ (xs (i + 1)) (xs (i + 2)) (!decide (xs (i + 3) = 0))) (if fClose (xs (i + 1)) (xs (i + 2)) = 0 then hiN n else n) fl tx ln)) hP hD
      have hP : va_P g vwCl (([aJ cy out 1 u.1] ++ fQ cy x a tr s0 s1 pa u.2 (closeR σ (xs (i + 1)) (xs (i + 2)) (!decide (xs (i + 3) = 0))) (if fClose (xs (i + 1)) (xs (i + 2)) = 0 then hiN n else n) fl tx ln) ++ (mQ cy ma r9 (closeR σ (xs (i + 1)) (xs (i + 2)) (!decide (xs (i + 3) = 0))) (if fClose (xs (i + 1)) (xs (i + 2)) = 0 then hiN n else n) fl tx ln)) H := hP
      have hD : va_D A (([aJ cy out 1 u.1] ++ fQ cy x a tr s0 s1 pa u.2 (closeR σ (xs (i + 1)) (xs (i + 2)) (!decide (xs (i + 3) = 0))) (if fClose (xs (i + 1)) (xs (i + 2)) = 0 then hiN n else n) fl tx ln) ++ (mQ cy ma r9 (closeR σ (xs (i + 1)) (xs (i + 2)) (!decide (xs (i + 3) = 0))) (if fClose (xs (i + 1)) (xs (i + 2)) = 0 then hiN n else n) fl tx ln)) := hD
      refine rd_call (va_runV (As := []) (rest := []) ⟨hx, hb, hml, hown, hts⟩ (c_X8_thrown l g cy H.size ma r9.1 r9.2.1 r9.2.2.1 r9.2.2.2.1 r9.2.2.2.2.1 r9.2.2.2.2.2.1 r9.2.2.2.2.2.2.1 r9.2.2.2.2.2.2.2 (closeR σ (xs (i + 1)) (xs (i + 2)) (!decide (xs (i + 3) = 0))) (if fClose (xs (i + 1)) (xs (i + 2)) = 0 then hiN n else n) fl tx ln) ⟨cB 0 hts wd8_2 wd1_5 wd7_23 rfl rfl (by decide +kernel) ⟨Nat.le_of_ble_eq_true rfl, Nat.le_of_ble_eq_true rfl⟩, hts _ wd8_0, hts _ wd8_1⟩ (pvS (wc := (mQ cy ma r9 (closeR σ (xs (i + 1)) (xs (i + 2)) (!decide (xs (i + 3) = 0))) (if fClose (xs (i + 1)) (xs (i + 2)) = 0 then hiN n else n) fl tx ln)) hK hP hD hS hA hX 6 rfl rfl) rfl rfl hl.1 rfl (lv_room (Nat.le_of_ble_eq_true rfl)) dL_law_964 ⟨by show _ ≤ 601024; omega, by show _ ≤ 7293033; omega⟩) ?_
      obtain ⟨hP, hD⟩ := sw_PD (L := []) (M := ([aJ cy out 1 u.1] ++ fQ cy x a tr s0 s1 pa u.2 (closeR σ (xs (i + 1)) (xs (i + 2)) (!decide (xs (i + 3) = 0))) (if fClose (xs (i + 1)) (xs (i + 2)) = 0 then hiN n else n) fl tx ln)) (T := (mQ cy ma r9 (closeR σ (xs (i + 1)) (xs (i + 2)) (!decide (xs (i + 3) = 0))) (if fClose (xs (i + 1)) (xs (i + 2)) = 0 then hiN n else n) fl tx ln)) hP hD
      have hP : va_P g vwCl ((mQ cy ma r9 (closeR σ (xs (i + 1)) (xs (i + 2)) (!decide (xs (i + 3) = 0))) (if fClose (xs (i + 1)) (xs (i + 2)) = 0 then hiN n else n) fl tx ln) ++ ([aJ cy out 1 u.1] ++ fQ cy x a tr s0 s1 pa u.2 (closeR σ (xs (i + 1)) (xs (i + 2)) (!decide (xs (i + 3) = 0))) (if fClose (xs (i + 1)) (xs (i + 2)) = 0 then hiN n else n) fl tx ln)) H := hP
      have hD : va_D A ((mQ cy ma r9 (closeR σ (xs (i + 1)) (xs (i + 2)) (!decide (xs (i + 3) = 0))) (if fClose (xs (i + 1)) (xs (i + 2)) = 0 then hiN n else n) fl tx ln) ++ ([aJ cy out 1 u.1] ++ fQ cy x a tr s0 s1 pa u.2 (closeR σ (xs (i + 1)) (xs (i + 2)) (!decide (xs (i + 3) = 0))) (if fClose (xs (i + 1)) (xs (i + 2)) = 0 then hiN n else n) fl tx ln)) := hD
      refine ti (show nI r9.2.2.2.2.2.2.2 = nI (rkm 1 2 0 (fClose (xs (i + 1)) (xs (i + 2)))) from congrArg nI hr9.1) ?_
      show W _ _ _ _ _ _ _ _ _ _ _ _ _ _ _ (F0 mX 967 ls [.int (nI (rkm 1 2 0 (fClose (xs (i + 1)) (xs (i + 2)))))])
      refine lv_iload hx hb dL_law_967 (lv_at hl 1 rfl) ?_
      refine lv_icmp_eq (tgt := 974) hx hb dL_law_969 (by decide) (fun c_969 => ?_) (fun c_969 => ?_)
      · have c_969 := (nc_eq9 (by omega) (by omega) c_969)
        refine lv_iload hx hb dL_law_974 (lv_at hl 1 rfl) ?_
        refine lv_if_ne (tgt := 991) hx hb dL_law_976 (by decide) (fun c_976 => ?_) (fun c_976 => ?_)
        · have c_976 := (nz_ne c_976 (by omega))
          refine lv_goto (tgt := 1691) hx hb dL_law_991 (by decide) ?_
          exact kk u.2 (r9) (closeR σ (xs (i + 1)) (xs (i + 2)) (!decide (xs (i + 3) = 0))) (if fClose (xs (i + 1)) (xs (i + 2)) = 0 then hiH Hh n σ else Hh) (if fClose (xs (i + 1)) (xs (i + 2)) = 0 then hiN n else n) K fl tx ln u.1 H locs ls (fI_mono hu.2 (by (try split) <;> omega) (by omega)) (mI_mono hr9.2 (by (try split) <;> omega) (by omega)) hP hD hS (lv_sub hl [2, 3, 4, 5, 6] rfl)
        · have c_976 := (nz_eq c_976 (by omega))
          have c_976 : rkm 1 2 0 (fClose (xs (i + 1)) (xs (i + 2))) = 0 := c_976
          have hz9 : fClose (xs (i + 1)) (xs (i + 2)) = 0 := rkm_z (by unfold fClose rkm; (repeat' split) <;> omega) c_976
          refine lv_aload_n hx hb dL_law_979 rfl (lv_at hl 5 rfl) ?_
          refine lv_iconst (v := (nI 0)) hx hb dL_law_980 (by decide) ?_
          refine va_lald hx hb hK hP 9 3 rfl rfl (vp_in_nI (n := 0) (by omega) (by omega)) dL_law_981 ?_
          refine tl (show u.1 (nI 0).toNatClampNeg = ((nI (closeA σ (xs (i + 1)) (xs (i + 2)) (!decide (xs (i + 3) = 0)))) : Int32).toInt64 from by rw [nI_clamp (by omega)]; exact hu.1 hz9) ?_
          refine lv_iload hx hb dL_law_982 (lv_at hl 0 rfl) ?_
          refine ti (show (nI (if fClose (xs (i + 1)) (xs (i + 2)) = 0 then closeA σ (xs (i + 1)) (xs (i + 2)) (!decide (xs (i + 3) = 0)) else 0)) = (nI (closeA σ (xs (i + 1)) (xs (i + 2)) (!decide (xs (i + 3) = 0)))) from (by rw [if_pos hz9])) ?_
          refine lv_i2l (v := (nI (closeA σ (xs (i + 1)) (xs (i + 2)) (!decide (xs (i + 3) = 0)))).toInt64) hx hb dL_law_984 rfl ?_
          refine W.lcmp hx hb dL_law_985 ?_
          refine lv_if_eq (tgt := 991) hx hb dL_law_986 (by decide) (fun c_986 => ?_) (fun c_986 => ?_)
          · have c_986 := lc_eq c_986
            refine lv_goto (tgt := 1691) hx hb dL_law_991 (by decide) ?_
            exact kk u.2 (r9) (closeR σ (xs (i + 1)) (xs (i + 2)) (!decide (xs (i + 3) = 0))) (if fClose (xs (i + 1)) (xs (i + 2)) = 0 then hiH Hh n σ else Hh) (if fClose (xs (i + 1)) (xs (i + 2)) = 0 then hiN n else n) K fl tx ln u.1 H locs ls (fI_mono hu.2 (by (try split) <;> omega) (by omega)) (mI_mono hr9.2 (by (try split) <;> omega) (by omega)) hP hD hS (lv_sub hl [2, 3, 4, 5, 6] rfl)
          · have c_986 := lc_ne c_986
            exact absurd rfl c_986
      · have c_969 := (nc_ne9 (by omega) (by omega) c_969)
        exact absurd rfl c_969
    · skip
      refine lv_aload_n hx hb dL_law_944 rfl (lv_at hl 1 rfl) ?_
      refine lv_iload hx hb dL_law_945 (lv_at hl 5 rfl) ?_
      refine lv_iconst (v := (nI 3)) hx hb dL_law_947 (by decide) ?_
      refine lv_iadd hx hb dL_law_948 ?_
      refine ti (nI_add i 3) ?_
      refine va_sld hx hb hXs hbl hbA hS (vp_in_nI (n := (i + 3)) (by omega) (by omega)) dL_law_949 ?_
      refine ti (show xs (nI (i + 3)).toNatClampNeg = xs (i + 3) from by rw [nI_clamp (by omega)]) ?_
      refine lv_if_eq (tgt := 957) hx hb dL_law_950 (by decide) (fun c_950 => ?_) (fun c_950 => ?_)
      · skip
        refine lv_iconst (v := (nI 0)) hx hb dL_law_957 (by decide) ?_
        exact jn958 _ (by simp [bI, nI_0, nI_o, c_950])
      · skip
        refine lv_iconst (v := (nI 1)) hx hb dL_law_953 (by decide) ?_
        refine lv_goto (tgt := 958) hx hb dL_law_954 (by decide) ?_
        exact jn958 _ (by simp [bI, nI_0, nI_o, c_950])
  · skip
    refine lv_aload_n hx hb dL_law_911 rfl (lv_at hl 0 rfl) ?_
    refine lv_iload hx hb dL_law_912 (lv_at hl 4 rfl) ?_
    refine lv_iconst (v := (nI 3)) hx hb dL_law_914 (by decide) ?_
    refine lv_iadd hx hb dL_law_915 ?_
    refine ti (nI_add i 3) ?_
    refine va_sld hx hb hXs hbl hbA hS (vp_in_nI (n := (i + 3)) (by omega) (by omega)) dL_law_916 ?_
    refine ti (show xs (nI (i + 3)).toNatClampNeg = xs (i + 3) from by rw [nI_clamp (by omega)]) ?_
    refine lv_if_eq (tgt := 924) hx hb dL_law_917 (by decide) (fun c_917 => ?_) (fun c_917 => ?_)
    · skip
      refine lv_iconst (v := (nI 0)) hx hb dL_law_924 (by decide) ?_
      exact jn925 _ (by simp [bI, nI_0, nI_o, c_917])
    · skip
      refine lv_iconst (v := (nI 1)) hx hb dL_law_920 (by decide) ?_
      refine lv_goto (tgt := 925) hx hb dL_law_921 (by decide) ?_
      exact jn925 _ (by simp [bI, nI_0, nI_o, c_917])
set_option maxHeartbeats 4000000 in
set_option maxRecDepth 100000 in
theorem lw_hours {pX : Program} {l : Launch} {eX : Env} {s : State} {mX : MethodId} {below : List Frame} {meth : Method} {cX : Code} {b L : Nat} {xs : Nat → Int32} {QX : State → Prop} {A : Nat → Prop} (hfl : l.stackTraces = false) (g : va_G) (cy : Nat → ClassId) (hx : pX.tables.exec = Jvm.exec) (hb : cX.code = cL_law) (hml : cX.maxLocals = 7) (hown : s.vm.findClass RL = some mX.cls) (hts : ∀ w ∈ wsL_law, w.before #[Value.ref b] s = true) (hA : ∀ q : Nat, s.heap.size ≤ q → A q) (hK : va_K g vwCl (Ty cy) s) (hX : Cx A s s.heap) (hY : Cy s) (hXs : va_X b L xs s s.heap) (hbl : b < s.heap.size) (hbA : ¬ A b) (hL : L ≤ 3072)
    {x a tr s0 s1 ma : Nat → Nat} {pa : Nat → Nat → Nat} {out i bd cells slots : Nat} {q : Sc} {r : Mc} {σ : Nat → Nat} {Hh : Nat → Nat → Nat} {n : Nat} {K : Nat → Nat → Nat} {fl : Nat → Bool} {tx : Nat → Nat} {ln : Nat} {f : Nat → Int64} {H : Heap} {locs : List Loc} {ls : Array Slot} (hi : i + 6 ≤ L) (hbd1 : 11880 ≤ bd) (hbd2 : bd ≤ 63000) (hc9 : cells ≤ 10000) (hs9 : slots ≤ 100000) (hI : fI bd q σ Hh n K fl tx ln) (hM : mI bd r σ Hh n K fl tx ln) (hP : va_P g vwCl (mQ cy ma r σ n fl tx ln ++ ([aJ cy out 1 f] ++ fQ cy x a tr s0 s1 pa q σ n fl tx ln)) H) (hD : va_D A (mQ cy ma r σ n fl tx ln ++ ([aJ cy out 1 f] ++ fQ cy x a tr s0 s1 pa q σ n fl tx ln))) (hS : va_S A s.heap H locs) (hl : lv_has ls 7 [(0, .ref b), (1, .ref (x 0)), (2, .ref (ma 0)), (3, .ref out), (4, .int (nI i))])
    (kk : ∀ (q : Sc) (r : Mc) (σ : Nat → Nat) (Hh : Nat → Nat → Nat) (n : Nat) (K : Nat → Nat → Nat) (fl : Nat → Bool) (tx : Nat → Nat) (ln : Nat) (f : Nat → Int64) (H : Heap) (locs : List Loc) (ls : Array Slot), fI (bd + 99) q σ Hh n K fl tx ln → mI (bd + 99) r σ Hh n K fl tx ln → va_P g vwCl (mQ cy ma r σ n fl tx ln ++ ([aJ cy out 1 f] ++ fQ cy x a tr s0 s1 pa q σ n fl tx ln)) H → va_D A (mQ cy ma r σ n fl tx ln ++ ([aJ cy out 1 f] ++ fQ cy x a tr s0 s1 pa q σ n fl tx ln)) → va_S A s.heap H locs → lv_has ls 7 [(0, .ref b), (1, .ref (x 0)), (2, .ref (ma 0)), (3, .ref out), (4, .int (nI i))] → W pX l eX room_1 s mX #[Value.ref b] below meth cX H locs (cells + 1) (slots + 6) QX (F0 mX 1691 ls [])) :
    W pX l eX room_1 s mX #[Value.ref b] below meth cX H locs cells slots QX (F0 mX 994 ls []) := by
  have hl : lv_has ls 7 [(0, .ref b), (1, .ref (x 0)), (2, .ref (ma 0)), (3, .ref out), (4, .int (nI i))] := hl
  refine lv_aload_n hx hb dL_law_994 rfl (lv_at hl 1 rfl) ?_
  refine lv_aload_n hx hb dL_law_995 rfl (lv_at hl 0 rfl) ?_
  refine lv_iload hx hb dL_law_996 (lv_at hl 4 rfl) ?_
  refine lv_iconst (v := (nI 1)) hx hb dL_law_998 (by decide) ?_
  refine lv_iadd hx hb dL_law_999 ?_
  refine ti (nI_add i 1) ?_
  refine va_sld hx hb hXs hbl hbA hS (vp_in_nI (n := (i + 1)) (by omega) (by omega)) dL_law_1000 ?_
  refine ti (show xs (nI (i + 1)).toNatClampNeg = xs (i + 1) from by rw [nI_clamp (by omega)]) ?_
  refine lv_aload_n hx hb dL_law_1001 rfl (lv_at hl 3 rfl) ?_
  refine wr_callS (pre := mQ cy ma r σ n fl tx ln) (wc := ([aJ cy out 1 f] ++ fQ cy x a tr s0 s1 pa q σ n fl tx ln)) (vx_runSW (hh := [(0, 9, 12, 13)]) (As := [.ref (x 0), .int (xs (i + 1)), .ref out]) (rest := []) ⟨hx, hb, hml, hown, hts⟩ (c_L_hours l hfl g cy out f x a tr s0 s1 pa H.size bd q σ Hh n K fl tx ln (xs (i + 1)) hI (by omega)) (vx_cwSW 3 hts (hl_in wd32_16 wd6_9 wd32_14 wd32_15) rfl rfl rfl (by decide +kernel) ⟨Nat.le_of_ble_eq_true rfl, Nat.le_of_ble_eq_true rfl⟩) (ps2 hK hP hD hS hA hX hY _ nd_suffix at_suffix) rfl rfl hl.1 rfl (lv_room (Nat.le_of_ble_eq_true rfl)) dL_law_1002 ⟨by show _ ≤ 601024; omega, by show _ ≤ 7293033; omega⟩) hP hD hS hA (fun _ => congrArg (fun z => out :: z) fQ_ad) (fun u H locs hu hP hD hS => ?_)
  have hP : va_P g vwCl (mQ cy ma r σ n fl tx ln ++ ([aJ cy out 1 u.1] ++ fQ cy x a tr s0 s1 pa u.2 (if fPass (xs (i + 1)) = 0 then hoursR σ (xs (i + 1)) else σ) (if fPass (xs (i + 1)) = 0 then hiN n else n) fl tx ln)) H := hP
  have hD : va_D A (mQ cy ma r σ n fl tx ln ++ ([aJ cy out 1 u.1] ++ fQ cy x a tr s0 s1 pa u.2 (if fPass (xs (i + 1)) = 0 then hoursR σ (xs (i + 1)) else σ) (if fPass (xs (i + 1)) = 0 then hiN n else n) fl tx ln)) := hD
  have hσ9 : (if fPass (xs (i + 1)) = 0 then hoursR σ (xs (i + 1)) else σ) = hoursR σ (xs (i + 1)) := by
    by_cases h9 : fPass (xs (i + 1)) = 0
    · rw [if_pos h9]
    · rw [if_neg h9]; exact (if_neg h9).symm
  rw [hσ9] at hP hD hu
  have hP : va_P g vwCl (mQ cy ma r σ n fl tx ln ++ ([aJ cy out 1 u.1] ++ fQ cy x a tr s0 s1 pa u.2 (hoursR σ (xs (i + 1))) (if fPass (xs (i + 1)) = 0 then hiN n else n) fl tx ln)) H := hP
  have hD : va_D A (mQ cy ma r σ n fl tx ln ++ ([aJ cy out 1 u.1] ++ fQ cy x a tr s0 s1 pa u.2 (hoursR σ (xs (i + 1))) (if fPass (xs (i + 1)) = 0 then hiN n else n) fl tx ln)) := hD
  have hrk9 : rkm 0 1 0 (fPass (xs (i + 1))) < 10 := by unfold rkm; (repeat' split) <;> omega
  show W _ _ _ _ _ _ _ _ _ _ _ _ _ _ _ (F0 mX 1005 ls [.int (nI (rkm 0 1 0 (fPass (xs (i + 1)))))])
  refine lv_istore (lv' := [(5, .int (nI (rkm 0 1 0 (fPass (xs (i + 1)))))), (0, .ref b), (1, .ref (x 0)), (2, .ref (ma 0)), (3, .ref out), (4, .int (nI i))]) hx hb dL_law_1005 hl (by decide) rfl (fun ls hl => ?_)
  refine lv_aload_n hx hb dL_law_1007 rfl (lv_at hl 3 rfl) ?_
  refine lv_aload_n hx hb dL_law_1008 rfl (lv_at hl 1 rfl) ?_
  refine lv_iload hx hb dL_law_1009 (lv_at hl 5 rfl) ?_
  refine lv_iconst (v := (nI 1)) hx hb dL_law_1011 (by decide) ?_
  refine lv_iadd hx hb dL_law_1012 ?_
  refine ti (nI_add i 1) ?_
  refine va_sld hx hb hXs hbl hbA hS (vp_in_nI (n := (i + 1)) (by omega) (by omega)) dL_law_1013 ?_
  refine ti (show xs (nI (i + 1)).toNatClampNeg = xs (i + 1) from by rw [nI_clamp (by omega)]) ?_
  obtain ⟨hP, hD⟩ := sw_PD (L := []) (M := mQ cy ma r σ n fl tx ln) (T := ([aJ cy out 1 u.1] ++ fQ cy x a tr s0 s1 pa u.2 (hoursR σ (xs (i + 1))) (if fPass (xs (i + 1)) = 0 then hiN n else n) fl tx ln)) hP hD
  have hP : va_P g vwCl (([aJ cy out 1 u.1] ++ fQ cy x a tr s0 s1 pa u.2 (hoursR σ (xs (i + 1))) (if fPass (xs (i + 1)) = 0 then hiN n else n) fl tx ln) ++ mQ cy ma r σ n fl tx ln) H := hP
  have hD : va_D A (([aJ cy out 1 u.1] ++ fQ cy x a tr s0 s1 pa u.2 (hoursR σ (xs (i + 1))) (if fPass (xs (i + 1)) = 0 then hiN n else n) fl tx ln) ++ mQ cy ma r σ n fl tx ln) := hD
  refine wr_callS (pre := ([aJ cy out 1 u.1] ++ fQ cy x a tr s0 s1 pa u.2 (hoursR σ (xs (i + 1))) (if fPass (xs (i + 1)) = 0 then hiN n else n) fl tx ln)) (wc := mQ cy ma r σ n fl tx ln) (va_runV (As := [.int (xs (i + 1))]) (rest := []) ⟨hx, hb, hml, hown, hts⟩ (c_X8_hours l g cy ma H.size bd r σ Hh n K fl tx ln (xs (i + 1)) hM (by omega)) ⟨cB 1 hts wd33_2 wd1_5 wd32_23 rfl rfl (by decide +kernel) ⟨Nat.le_of_ble_eq_true rfl, Nat.le_of_ble_eq_true rfl⟩, hts _ wd33_0, hts _ wd33_1⟩ (pvS hK hP hD hS hA hX 6 rfl rfl) rfl rfl hl.1 rfl (lv_room (Nat.le_of_ble_eq_true rfl)) dL_law_1014 ⟨by show _ ≤ 601024; omega, by show _ ≤ 7293033; omega⟩) hP hD hS hA (fun _ => mQ_ad) (fun r9 H locs hr9 hP hD hS => ?_)
  have hP : va_P g vwCl (([aJ cy out 1 u.1] ++ fQ cy x a tr s0 s1 pa u.2 (hoursR σ (xs (i + 1))) (if fPass (xs (i + 1)) = 0 then hiN n else n) fl tx ln) ++ (mQ cy ma r9 (hoursR σ (xs (i + 1))) (if fPass (xs (i + 1)) = 0 then hiN n else n) fl tx ln)) H := hP
  have hD : va_D A (([aJ cy out 1 u.1] ++ fQ cy x a tr s0 s1 pa u.2 (hoursR σ (xs (i + 1))) (if fPass (xs (i + 1)) = 0 then hiN n else n) fl tx ln) ++ (mQ cy ma r9 (hoursR σ (xs (i + 1))) (if fPass (xs (i + 1)) = 0 then hiN n else n) fl tx ln)) := hD
  obtain ⟨hP, hD⟩ := sw_PD (L := []) (M := ([aJ cy out 1 u.1] ++ fQ cy x a tr s0 s1 pa u.2 (hoursR σ (xs (i + 1))) (if fPass (xs (i + 1)) = 0 then hiN n else n) fl tx ln)) (T := (mQ cy ma r9 (hoursR σ (xs (i + 1))) (if fPass (xs (i + 1)) = 0 then hiN n else n) fl tx ln)) hP hD
  have hP : va_P g vwCl ((mQ cy ma r9 (hoursR σ (xs (i + 1))) (if fPass (xs (i + 1)) = 0 then hiN n else n) fl tx ln) ++ ([aJ cy out 1 u.1] ++ fQ cy x a tr s0 s1 pa u.2 (hoursR σ (xs (i + 1))) (if fPass (xs (i + 1)) = 0 then hiN n else n) fl tx ln)) H := hP
  have hD : va_D A ((mQ cy ma r9 (hoursR σ (xs (i + 1))) (if fPass (xs (i + 1)) = 0 then hiN n else n) fl tx ln) ++ ([aJ cy out 1 u.1] ++ fQ cy x a tr s0 s1 pa u.2 (hoursR σ (xs (i + 1))) (if fPass (xs (i + 1)) = 0 then hiN n else n) fl tx ln)) := hD
  show W _ _ _ _ _ _ _ _ _ _ _ _ _ _ _ (F0 mX 1017 ls [.int (nI (if fPass (xs (i + 1)) = 0 then hoursA σ (xs (i + 1)) else 0))])
  refine lv_istore (lv' := [(6, .int (nI (if fPass (xs (i + 1)) = 0 then hoursA σ (xs (i + 1)) else 0))), (5, .int (nI (rkm 0 1 0 (fPass (xs (i + 1)))))), (0, .ref b), (1, .ref (x 0)), (2, .ref (ma 0)), (3, .ref out), (4, .int (nI i))]) hx hb dL_law_1017 hl (by decide) rfl (fun ls hl => ?_)
  refine lv_aload_n hx hb dL_law_1019 rfl (lv_at hl 4 rfl) ?_
  obtain ⟨hP, hD⟩ := sw_PD (L := []) (M := (mQ cy ma r9 (hoursR σ (xs (i + 1))) (if fPass (xs (i + 1)) = 0 then hiN n else n) fl tx ln)) (T := ([aJ cy out 1 u.1] ++ fQ cy x a tr s0 s1 pa u.2 (hoursR σ (xs (i + 1))) (if fPass (xs (i + 1)) = 0 then hiN n else n) fl tx ln)) hP hD
  have hP : va_P g vwCl (([aJ cy out 1 u.1] ++ fQ cy x a tr s0 s1 pa u.2 (hoursR σ (xs (i + 1))) (if fPass (xs (i + 1)) = 0 then hiN n else n) fl tx ln) ++ (mQ cy ma r9 (hoursR σ (xs (i + 1))) (if fPass (xs (i + 1)) = 0 then hiN n else n) fl tx ln)) H := hP
  have hD : va_D A (([aJ cy out 1 u.1] ++ fQ cy x a tr s0 s1 pa u.2 (hoursR σ (xs (i + 1))) (if fPass (xs (i + 1)) = 0 then hiN n else n) fl tx ln) ++ (mQ cy ma r9 (hoursR σ (xs (i + 1))) (if fPass (xs (i + 1)) = 0 then hiN n else n) fl tx ln)) := hD
  refine rd_call (va_runV (As := []) (rest := []) ⟨hx, hb, hml, hown, hts⟩ (c_X8_thrown l g cy H.size ma r9.1 r9.2.1 r9.2.2.1 r9.2.2.2.1 r9.2.2.2.2.1 r9.2.2.2.2.2.1 r9.2.2.2.2.2.2.1 r9.2.2.2.2.2.2.2 (hoursR σ (xs (i + 1))) (if fPass (xs (i + 1)) = 0 then hiN n else n) fl tx ln) ⟨cB 0 hts wd8_2 wd1_5 wd7_23 rfl rfl (by decide +kernel) ⟨Nat.le_of_ble_eq_true rfl, Nat.le_of_ble_eq_true rfl⟩, hts _ wd8_0, hts _ wd8_1⟩ (pvS (wc := (mQ cy ma r9 (hoursR σ (xs (i + 1))) (if fPass (xs (i + 1)) = 0 then hiN n else n) fl tx ln)) hK hP hD hS hA hX 6 rfl rfl) rfl rfl hl.1 rfl (lv_room (Nat.le_of_ble_eq_true rfl)) dL_law_1020 ⟨by show _ ≤ 601024; omega, by show _ ≤ 7293033; omega⟩) ?_
  obtain ⟨hP, hD⟩ := sw_PD (L := []) (M := ([aJ cy out 1 u.1] ++ fQ cy x a tr s0 s1 pa u.2 (hoursR σ (xs (i + 1))) (if fPass (xs (i + 1)) = 0 then hiN n else n) fl tx ln)) (T := (mQ cy ma r9 (hoursR σ (xs (i + 1))) (if fPass (xs (i + 1)) = 0 then hiN n else n) fl tx ln)) hP hD
  have hP : va_P g vwCl ((mQ cy ma r9 (hoursR σ (xs (i + 1))) (if fPass (xs (i + 1)) = 0 then hiN n else n) fl tx ln) ++ ([aJ cy out 1 u.1] ++ fQ cy x a tr s0 s1 pa u.2 (hoursR σ (xs (i + 1))) (if fPass (xs (i + 1)) = 0 then hiN n else n) fl tx ln)) H := hP
  have hD : va_D A ((mQ cy ma r9 (hoursR σ (xs (i + 1))) (if fPass (xs (i + 1)) = 0 then hiN n else n) fl tx ln) ++ ([aJ cy out 1 u.1] ++ fQ cy x a tr s0 s1 pa u.2 (hoursR σ (xs (i + 1))) (if fPass (xs (i + 1)) = 0 then hiN n else n) fl tx ln)) := hD
  refine ti (show nI r9.2.2.2.2.2.2.2 = nI (rkm 0 1 0 (fPass (xs (i + 1)))) from congrArg nI hr9.1) ?_
  show W _ _ _ _ _ _ _ _ _ _ _ _ _ _ _ (F0 mX 1023 ls [.int (nI (rkm 0 1 0 (fPass (xs (i + 1)))))])
  refine lv_iload hx hb dL_law_1023 (lv_at hl 1 rfl) ?_
  refine lv_icmp_eq (tgt := 1030) hx hb dL_law_1025 (by decide) (fun c_1025 => ?_) (fun c_1025 => ?_)
  · have c_1025 := (nc_eq9 (by omega) (by omega) c_1025)
    refine lv_iload hx hb dL_law_1030 (lv_at hl 1 rfl) ?_
    refine lv_if_ne (tgt := 1047) hx hb dL_law_1032 (by decide) (fun c_1032 => ?_) (fun c_1032 => ?_)
    · have c_1032 := (nz_ne c_1032 (by omega))
      refine lv_goto (tgt := 1691) hx hb dL_law_1047 (by decide) ?_
      exact kk u.2 (r9) (hoursR σ (xs (i + 1))) (if fPass (xs (i + 1)) = 0 then hiH Hh n σ else Hh) (if fPass (xs (i + 1)) = 0 then hiN n else n) K fl tx ln u.1 H locs ls (fI_mono hu.2 (by (try split) <;> omega) (by omega)) (mI_mono hr9.2 (by (try split) <;> omega) (by omega)) hP hD hS (lv_sub hl [2, 3, 4, 5, 6] rfl)
    · have c_1032 := (nz_eq c_1032 (by omega))
      have c_1032 : rkm 0 1 0 (fPass (xs (i + 1))) = 0 := c_1032
      have hz9 : fPass (xs (i + 1)) = 0 := rkm_z (by unfold fPass rkm; (repeat' split) <;> omega) c_1032
      refine lv_aload_n hx hb dL_law_1035 rfl (lv_at hl 5 rfl) ?_
      refine lv_iconst (v := (nI 0)) hx hb dL_law_1036 (by decide) ?_
      refine va_lald hx hb hK hP 9 3 rfl rfl (vp_in_nI (n := 0) (by omega) (by omega)) dL_law_1037 ?_
      refine tl (show u.1 (nI 0).toNatClampNeg = ((nI (hoursA σ (xs (i + 1)))) : Int32).toInt64 from by rw [nI_clamp (by omega)]; exact hu.1 hz9) ?_
      refine lv_iload hx hb dL_law_1038 (lv_at hl 0 rfl) ?_
      refine ti (show (nI (if fPass (xs (i + 1)) = 0 then hoursA σ (xs (i + 1)) else 0)) = (nI (hoursA σ (xs (i + 1)))) from (by rw [if_pos hz9])) ?_
      refine lv_i2l (v := (nI (hoursA σ (xs (i + 1)))).toInt64) hx hb dL_law_1040 rfl ?_
      refine W.lcmp hx hb dL_law_1041 ?_
      refine lv_if_eq (tgt := 1047) hx hb dL_law_1042 (by decide) (fun c_1042 => ?_) (fun c_1042 => ?_)
      · have c_1042 := lc_eq c_1042
        refine lv_goto (tgt := 1691) hx hb dL_law_1047 (by decide) ?_
        exact kk u.2 (r9) (hoursR σ (xs (i + 1))) (if fPass (xs (i + 1)) = 0 then hiH Hh n σ else Hh) (if fPass (xs (i + 1)) = 0 then hiN n else n) K fl tx ln u.1 H locs ls (fI_mono hu.2 (by (try split) <;> omega) (by omega)) (mI_mono hr9.2 (by (try split) <;> omega) (by omega)) hP hD hS (lv_sub hl [2, 3, 4, 5, 6] rfl)
      · have c_1042 := lc_ne c_1042
        exact absurd rfl c_1042
  · have c_1025 := (nc_ne9 (by omega) (by omega) c_1025)
    exact absurd rfl c_1025
set_option maxHeartbeats 4000000 in
set_option maxRecDepth 100000 in
theorem lw_set {pX : Program} {l : Launch} {eX : Env} {s : State} {mX : MethodId} {below : List Frame} {meth : Method} {cX : Code} {b L : Nat} {xs : Nat → Int32} {QX : State → Prop} {A : Nat → Prop} (hfl : l.stackTraces = false) (g : va_G) (cy : Nat → ClassId) (hx : pX.tables.exec = Jvm.exec) (hb : cX.code = cL_law) (hml : cX.maxLocals = 7) (hown : s.vm.findClass RL = some mX.cls) (hts : ∀ w ∈ wsL_law, w.before #[Value.ref b] s = true) (hA : ∀ q : Nat, s.heap.size ≤ q → A q) (hK : va_K g vwCl (Ty cy) s) (hX : Cx A s s.heap) (hY : Cy s) (hXs : va_X b L xs s s.heap) (hbl : b < s.heap.size) (hbA : ¬ A b) (hL : L ≤ 3072)
    {x a tr s0 s1 ma : Nat → Nat} {pa : Nat → Nat → Nat} {out i bd cells slots : Nat} {q : Sc} {r : Mc} {σ : Nat → Nat} {Hh : Nat → Nat → Nat} {n : Nat} {K : Nat → Nat → Nat} {fl : Nat → Bool} {tx : Nat → Nat} {ln : Nat} {f : Nat → Int64} {H : Heap} {locs : List Loc} {ls : Array Slot} (hi : i + 6 ≤ L) (hbd1 : 11880 ≤ bd) (hbd2 : bd ≤ 63000) (hc9 : cells ≤ 10000) (hs9 : slots ≤ 100000) (hI : fI bd q σ Hh n K fl tx ln) (hM : mI bd r σ Hh n K fl tx ln) (hP : va_P g vwCl (mQ cy ma r σ n fl tx ln ++ ([aJ cy out 1 f] ++ fQ cy x a tr s0 s1 pa q σ n fl tx ln)) H) (hD : va_D A (mQ cy ma r σ n fl tx ln ++ ([aJ cy out 1 f] ++ fQ cy x a tr s0 s1 pa q σ n fl tx ln))) (hS : va_S A s.heap H locs) (hl : lv_has ls 7 [(0, .ref b), (1, .ref (x 0)), (2, .ref (ma 0)), (3, .ref out), (4, .int (nI i))])
    (kk : ∀ (q : Sc) (r : Mc) (σ : Nat → Nat) (Hh : Nat → Nat → Nat) (n : Nat) (K : Nat → Nat → Nat) (fl : Nat → Bool) (tx : Nat → Nat) (ln : Nat) (f : Nat → Int64) (H : Heap) (locs : List Loc) (ls : Array Slot), fI (bd + 99) q σ Hh n K fl tx ln → mI (bd + 99) r σ Hh n K fl tx ln → va_P g vwCl (mQ cy ma r σ n fl tx ln ++ ([aJ cy out 1 f] ++ fQ cy x a tr s0 s1 pa q σ n fl tx ln)) H → va_D A (mQ cy ma r σ n fl tx ln ++ ([aJ cy out 1 f] ++ fQ cy x a tr s0 s1 pa q σ n fl tx ln)) → va_S A s.heap H locs → lv_has ls 7 [(0, .ref b), (1, .ref (x 0)), (2, .ref (ma 0)), (3, .ref out), (4, .int (nI i))] → W pX l eX room_1 s mX #[Value.ref b] below meth cX H locs (cells + 1) (slots + 6) QX (F0 mX 1691 ls [])) :
    W pX l eX room_1 s mX #[Value.ref b] below meth cX H locs cells slots QX (F0 mX 1050 ls []) := by
  have hl : lv_has ls 7 [(0, .ref b), (1, .ref (x 0)), (2, .ref (ma 0)), (3, .ref out), (4, .int (nI i))] := hl
  refine lv_aload_n hx hb dL_law_1050 rfl (lv_at hl 1 rfl) ?_
  refine lv_aload_n hx hb dL_law_1051 rfl (lv_at hl 0 rfl) ?_
  refine lv_iload hx hb dL_law_1052 (lv_at hl 4 rfl) ?_
  refine lv_iconst (v := (nI 1)) hx hb dL_law_1054 (by decide) ?_
  refine lv_iadd hx hb dL_law_1055 ?_
  refine ti (nI_add i 1) ?_
  refine va_sld hx hb hXs hbl hbA hS (vp_in_nI (n := (i + 1)) (by omega) (by omega)) dL_law_1056 ?_
  refine ti (show xs (nI (i + 1)).toNatClampNeg = xs (i + 1) from by rw [nI_clamp (by omega)]) ?_
  refine lv_aload_n hx hb dL_law_1057 rfl (lv_at hl 0 rfl) ?_
  refine lv_iload hx hb dL_law_1058 (lv_at hl 4 rfl) ?_
  refine lv_iconst (v := (nI 2)) hx hb dL_law_1060 (by decide) ?_
  refine lv_iadd hx hb dL_law_1061 ?_
  refine ti (nI_add i 2) ?_
  refine va_sld hx hb hXs hbl hbA hS (vp_in_nI (n := (i + 2)) (by omega) (by omega)) dL_law_1062 ?_
  refine ti (show xs (nI (i + 2)).toNatClampNeg = xs (i + 2) from by rw [nI_clamp (by omega)]) ?_
  refine lv_aload_n hx hb dL_law_1063 rfl (lv_at hl 3 rfl) ?_
  refine wr_callS (pre := mQ cy ma r σ n fl tx ln) (wc := ([aJ cy out 1 f] ++ fQ cy x a tr s0 s1 pa q σ n fl tx ln)) (vx_runSW (hh := [(0, 10, 13, 13)]) (As := [.ref (x 0), .int (xs (i + 1)), .int (xs (i + 2)), .ref out]) (rest := []) ⟨hx, hb, hml, hown, hts⟩ (c_L_set l hfl g cy out f x a tr s0 s1 pa H.size bd q σ Hh n K fl tx ln (xs (i + 1)) (xs (i + 2)) hI ) (vx_cwSW 4 hts (hl_in wd33_5 wd6_9 wd33_3 wd33_4) rfl rfl rfl (by decide +kernel) ⟨Nat.le_of_ble_eq_true rfl, Nat.le_of_ble_eq_true rfl⟩) (ps2 hK hP hD hS hA hX hY _ nd_suffix at_suffix) rfl rfl hl.1 rfl (lv_room (Nat.le_of_ble_eq_true rfl)) dL_law_1064 ⟨by show _ ≤ 601024; omega, by show _ ≤ 7293033; omega⟩) hP hD hS hA (fun _ => congrArg (fun z => out :: z) fQ_ad) (fun u H locs hu hP hD hS => ?_)
  have hP : va_P g vwCl (mQ cy ma r σ n fl tx ln ++ ([aJ cy out 1 u.1] ++ fQ cy x a tr s0 s1 pa u.2 (if fSet (xs (i + 1)) (xs (i + 2)) = 0 then setR σ (xs (i + 1)) (xs (i + 2)) else σ) (if fSet (xs (i + 1)) (xs (i + 2)) = 0 then hiN n else n) fl tx ln)) H := hP
  have hD : va_D A (mQ cy ma r σ n fl tx ln ++ ([aJ cy out 1 u.1] ++ fQ cy x a tr s0 s1 pa u.2 (if fSet (xs (i + 1)) (xs (i + 2)) = 0 then setR σ (xs (i + 1)) (xs (i + 2)) else σ) (if fSet (xs (i + 1)) (xs (i + 2)) = 0 then hiN n else n) fl tx ln)) := hD
  have hσ9 : (if fSet (xs (i + 1)) (xs (i + 2)) = 0 then setR σ (xs (i + 1)) (xs (i + 2)) else σ) = setR σ (xs (i + 1)) (xs (i + 2)) := by
    by_cases h9 : fSet (xs (i + 1)) (xs (i + 2)) = 0
    · rw [if_pos h9]
    · rw [if_neg h9]; exact (if_neg h9).symm
  rw [hσ9] at hP hD hu
  have hP : va_P g vwCl (mQ cy ma r σ n fl tx ln ++ ([aJ cy out 1 u.1] ++ fQ cy x a tr s0 s1 pa u.2 (setR σ (xs (i + 1)) (xs (i + 2))) (if fSet (xs (i + 1)) (xs (i + 2)) = 0 then hiN n else n) fl tx ln)) H := hP
  have hD : va_D A (mQ cy ma r σ n fl tx ln ++ ([aJ cy out 1 u.1] ++ fQ cy x a tr s0 s1 pa u.2 (setR σ (xs (i + 1)) (xs (i + 2))) (if fSet (xs (i + 1)) (xs (i + 2)) = 0 then hiN n else n) fl tx ln)) := hD
  have hrk9 : rkm 0 1 0 (fSet (xs (i + 1)) (xs (i + 2))) < 10 := by unfold rkm; (repeat' split) <;> omega
  show W _ _ _ _ _ _ _ _ _ _ _ _ _ _ _ (F0 mX 1067 ls [.int (nI (rkm 0 1 0 (fSet (xs (i + 1)) (xs (i + 2)))))])
  refine lv_istore (lv' := [(5, .int (nI (rkm 0 1 0 (fSet (xs (i + 1)) (xs (i + 2)))))), (0, .ref b), (1, .ref (x 0)), (2, .ref (ma 0)), (3, .ref out), (4, .int (nI i))]) hx hb dL_law_1067 hl (by decide) rfl (fun ls hl => ?_)
  refine lv_aload_n hx hb dL_law_1069 rfl (lv_at hl 3 rfl) ?_
  refine lv_aload_n hx hb dL_law_1070 rfl (lv_at hl 1 rfl) ?_
  refine lv_iload hx hb dL_law_1071 (lv_at hl 5 rfl) ?_
  refine lv_iconst (v := (nI 1)) hx hb dL_law_1073 (by decide) ?_
  refine lv_iadd hx hb dL_law_1074 ?_
  refine ti (nI_add i 1) ?_
  refine va_sld hx hb hXs hbl hbA hS (vp_in_nI (n := (i + 1)) (by omega) (by omega)) dL_law_1075 ?_
  refine ti (show xs (nI (i + 1)).toNatClampNeg = xs (i + 1) from by rw [nI_clamp (by omega)]) ?_
  refine lv_aload_n hx hb dL_law_1076 rfl (lv_at hl 1 rfl) ?_
  refine lv_iload hx hb dL_law_1077 (lv_at hl 5 rfl) ?_
  refine lv_iconst (v := (nI 2)) hx hb dL_law_1079 (by decide) ?_
  refine lv_iadd hx hb dL_law_1080 ?_
  refine ti (nI_add i 2) ?_
  refine va_sld hx hb hXs hbl hbA hS (vp_in_nI (n := (i + 2)) (by omega) (by omega)) dL_law_1081 ?_
  refine ti (show xs (nI (i + 2)).toNatClampNeg = xs (i + 2) from by rw [nI_clamp (by omega)]) ?_
  obtain ⟨hP, hD⟩ := sw_PD (L := []) (M := mQ cy ma r σ n fl tx ln) (T := ([aJ cy out 1 u.1] ++ fQ cy x a tr s0 s1 pa u.2 (setR σ (xs (i + 1)) (xs (i + 2))) (if fSet (xs (i + 1)) (xs (i + 2)) = 0 then hiN n else n) fl tx ln)) hP hD
  have hP : va_P g vwCl (([aJ cy out 1 u.1] ++ fQ cy x a tr s0 s1 pa u.2 (setR σ (xs (i + 1)) (xs (i + 2))) (if fSet (xs (i + 1)) (xs (i + 2)) = 0 then hiN n else n) fl tx ln) ++ mQ cy ma r σ n fl tx ln) H := hP
  have hD : va_D A (([aJ cy out 1 u.1] ++ fQ cy x a tr s0 s1 pa u.2 (setR σ (xs (i + 1)) (xs (i + 2))) (if fSet (xs (i + 1)) (xs (i + 2)) = 0 then hiN n else n) fl tx ln) ++ mQ cy ma r σ n fl tx ln) := hD
  refine wr_callS (pre := ([aJ cy out 1 u.1] ++ fQ cy x a tr s0 s1 pa u.2 (setR σ (xs (i + 1)) (xs (i + 2))) (if fSet (xs (i + 1)) (xs (i + 2)) = 0 then hiN n else n) fl tx ln)) (wc := mQ cy ma r σ n fl tx ln) (va_runV (As := [.int (xs (i + 1)), .int (xs (i + 2))]) (rest := []) ⟨hx, hb, hml, hown, hts⟩ (c_X8_set l g cy ma H.size bd r σ Hh n K fl tx ln (xs (i + 1)) (xs (i + 2)) hM ) ⟨cB 2 hts wd33_22 wd1_5 wd33_19 rfl rfl (by decide +kernel) ⟨Nat.le_of_ble_eq_true rfl, Nat.le_of_ble_eq_true rfl⟩, hts _ wd33_20, hts _ wd33_21⟩ (pvS hK hP hD hS hA hX 6 rfl rfl) rfl rfl hl.1 rfl (lv_room (Nat.le_of_ble_eq_true rfl)) dL_law_1082 ⟨by show _ ≤ 601024; omega, by show _ ≤ 7293033; omega⟩) hP hD hS hA (fun _ => mQ_ad) (fun r9 H locs hr9 hP hD hS => ?_)
  have hP : va_P g vwCl (([aJ cy out 1 u.1] ++ fQ cy x a tr s0 s1 pa u.2 (setR σ (xs (i + 1)) (xs (i + 2))) (if fSet (xs (i + 1)) (xs (i + 2)) = 0 then hiN n else n) fl tx ln) ++ (mQ cy ma r9 (setR σ (xs (i + 1)) (xs (i + 2))) (if fSet (xs (i + 1)) (xs (i + 2)) = 0 then hiN n else n) fl tx ln)) H := hP
  have hD : va_D A (([aJ cy out 1 u.1] ++ fQ cy x a tr s0 s1 pa u.2 (setR σ (xs (i + 1)) (xs (i + 2))) (if fSet (xs (i + 1)) (xs (i + 2)) = 0 then hiN n else n) fl tx ln) ++ (mQ cy ma r9 (setR σ (xs (i + 1)) (xs (i + 2))) (if fSet (xs (i + 1)) (xs (i + 2)) = 0 then hiN n else n) fl tx ln)) := hD
  obtain ⟨hP, hD⟩ := sw_PD (L := []) (M := ([aJ cy out 1 u.1] ++ fQ cy x a tr s0 s1 pa u.2 (setR σ (xs (i + 1)) (xs (i + 2))) (if fSet (xs (i + 1)) (xs (i + 2)) = 0 then hiN n else n) fl tx ln)) (T := (mQ cy ma r9 (setR σ (xs (i + 1)) (xs (i + 2))) (if fSet (xs (i + 1)) (xs (i + 2)) = 0 then hiN n else n) fl tx ln)) hP hD
  have hP : va_P g vwCl ((mQ cy ma r9 (setR σ (xs (i + 1)) (xs (i + 2))) (if fSet (xs (i + 1)) (xs (i + 2)) = 0 then hiN n else n) fl tx ln) ++ ([aJ cy out 1 u.1] ++ fQ cy x a tr s0 s1 pa u.2 (setR σ (xs (i + 1)) (xs (i + 2))) (if fSet (xs (i + 1)) (xs (i + 2)) = 0 then hiN n else n) fl tx ln)) H := hP
  have hD : va_D A ((mQ cy ma r9 (setR σ (xs (i + 1)) (xs (i + 2))) (if fSet (xs (i + 1)) (xs (i + 2)) = 0 then hiN n else n) fl tx ln) ++ ([aJ cy out 1 u.1] ++ fQ cy x a tr s0 s1 pa u.2 (setR σ (xs (i + 1)) (xs (i + 2))) (if fSet (xs (i + 1)) (xs (i + 2)) = 0 then hiN n else n) fl tx ln)) := hD
  show W _ _ _ _ _ _ _ _ _ _ _ _ _ _ _ (F0 mX 1085 ls [.int (nI (if fSet (xs (i + 1)) (xs (i + 2)) = 0 then setA σ (xs (i + 1)) (xs (i + 2)) else 0))])
  refine lv_istore (lv' := [(6, .int (nI (if fSet (xs (i + 1)) (xs (i + 2)) = 0 then setA σ (xs (i + 1)) (xs (i + 2)) else 0))), (5, .int (nI (rkm 0 1 0 (fSet (xs (i + 1)) (xs (i + 2)))))), (0, .ref b), (1, .ref (x 0)), (2, .ref (ma 0)), (3, .ref out), (4, .int (nI i))]) hx hb dL_law_1085 hl (by decide) rfl (fun ls hl => ?_)
  refine lv_aload_n hx hb dL_law_1087 rfl (lv_at hl 4 rfl) ?_
  obtain ⟨hP, hD⟩ := sw_PD (L := []) (M := (mQ cy ma r9 (setR σ (xs (i + 1)) (xs (i + 2))) (if fSet (xs (i + 1)) (xs (i + 2)) = 0 then hiN n else n) fl tx ln)) (T := ([aJ cy out 1 u.1] ++ fQ cy x a tr s0 s1 pa u.2 (setR σ (xs (i + 1)) (xs (i + 2))) (if fSet (xs (i + 1)) (xs (i + 2)) = 0 then hiN n else n) fl tx ln)) hP hD
  have hP : va_P g vwCl (([aJ cy out 1 u.1] ++ fQ cy x a tr s0 s1 pa u.2 (setR σ (xs (i + 1)) (xs (i + 2))) (if fSet (xs (i + 1)) (xs (i + 2)) = 0 then hiN n else n) fl tx ln) ++ (mQ cy ma r9 (setR σ (xs (i + 1)) (xs (i + 2))) (if fSet (xs (i + 1)) (xs (i + 2)) = 0 then hiN n else n) fl tx ln)) H := hP
  have hD : va_D A (([aJ cy out 1 u.1] ++ fQ cy x a tr s0 s1 pa u.2 (setR σ (xs (i + 1)) (xs (i + 2))) (if fSet (xs (i + 1)) (xs (i + 2)) = 0 then hiN n else n) fl tx ln) ++ (mQ cy ma r9 (setR σ (xs (i + 1)) (xs (i + 2))) (if fSet (xs (i + 1)) (xs (i + 2)) = 0 then hiN n else n) fl tx ln)) := hD
  refine rd_call (va_runV (As := []) (rest := []) ⟨hx, hb, hml, hown, hts⟩ (c_X8_thrown l g cy H.size ma r9.1 r9.2.1 r9.2.2.1 r9.2.2.2.1 r9.2.2.2.2.1 r9.2.2.2.2.2.1 r9.2.2.2.2.2.2.1 r9.2.2.2.2.2.2.2 (setR σ (xs (i + 1)) (xs (i + 2))) (if fSet (xs (i + 1)) (xs (i + 2)) = 0 then hiN n else n) fl tx ln) ⟨cB 0 hts wd8_2 wd1_5 wd7_23 rfl rfl (by decide +kernel) ⟨Nat.le_of_ble_eq_true rfl, Nat.le_of_ble_eq_true rfl⟩, hts _ wd8_0, hts _ wd8_1⟩ (pvS (wc := (mQ cy ma r9 (setR σ (xs (i + 1)) (xs (i + 2))) (if fSet (xs (i + 1)) (xs (i + 2)) = 0 then hiN n else n) fl tx ln)) hK hP hD hS hA hX 6 rfl rfl) rfl rfl hl.1 rfl (lv_room (Nat.le_of_ble_eq_true rfl)) dL_law_1088 ⟨by show _ ≤ 601024; omega, by show _ ≤ 7293033; omega⟩) ?_
  obtain ⟨hP, hD⟩ := sw_PD (L := []) (M := ([aJ cy out 1 u.1] ++ fQ cy x a tr s0 s1 pa u.2 (setR σ (xs (i + 1)) (xs (i + 2))) (if fSet (xs (i + 1)) (xs (i + 2)) = 0 then hiN n else n) fl tx ln)) (T := (mQ cy ma r9 (setR σ (xs (i + 1)) (xs (i + 2))) (if fSet (xs (i + 1)) (xs (i + 2)) = 0 then hiN n else n) fl tx ln)) hP hD
  have hP : va_P g vwCl ((mQ cy ma r9 (setR σ (xs (i + 1)) (xs (i + 2))) (if fSet (xs (i + 1)) (xs (i + 2)) = 0 then hiN n else n) fl tx ln) ++ ([aJ cy out 1 u.1] ++ fQ cy x a tr s0 s1 pa u.2 (setR σ (xs (i + 1)) (xs (i + 2))) (if fSet (xs (i + 1)) (xs (i + 2)) = 0 then hiN n else n) fl tx ln)) H := hP
  have hD : va_D A ((mQ cy ma r9 (setR σ (xs (i + 1)) (xs (i + 2))) (if fSet (xs (i + 1)) (xs (i + 2)) = 0 then hiN n else n) fl tx ln) ++ ([aJ cy out 1 u.1] ++ fQ cy x a tr s0 s1 pa u.2 (setR σ (xs (i + 1)) (xs (i + 2))) (if fSet (xs (i + 1)) (xs (i + 2)) = 0 then hiN n else n) fl tx ln)) := hD
  refine ti (show nI r9.2.2.2.2.2.2.2 = nI (rkm 0 1 0 (fSet (xs (i + 1)) (xs (i + 2)))) from congrArg nI hr9.1) ?_
  show W _ _ _ _ _ _ _ _ _ _ _ _ _ _ _ (F0 mX 1091 ls [.int (nI (rkm 0 1 0 (fSet (xs (i + 1)) (xs (i + 2)))))])
  refine lv_iload hx hb dL_law_1091 (lv_at hl 1 rfl) ?_
  refine lv_icmp_eq (tgt := 1098) hx hb dL_law_1093 (by decide) (fun c_1093 => ?_) (fun c_1093 => ?_)
  · have c_1093 := (nc_eq9 (by omega) (by omega) c_1093)
    refine lv_iload hx hb dL_law_1098 (lv_at hl 1 rfl) ?_
    refine lv_if_ne (tgt := 1115) hx hb dL_law_1100 (by decide) (fun c_1100 => ?_) (fun c_1100 => ?_)
    · have c_1100 := (nz_ne c_1100 (by omega))
      refine lv_goto (tgt := 1691) hx hb dL_law_1115 (by decide) ?_
      exact kk u.2 (r9) (setR σ (xs (i + 1)) (xs (i + 2))) (if fSet (xs (i + 1)) (xs (i + 2)) = 0 then hiH Hh n σ else Hh) (if fSet (xs (i + 1)) (xs (i + 2)) = 0 then hiN n else n) K fl tx ln u.1 H locs ls (fI_mono hu.2 (by (try split) <;> omega) (by omega)) (mI_mono hr9.2 (by (try split) <;> omega) (by omega)) hP hD hS (lv_sub hl [2, 3, 4, 5, 6] rfl)
    · have c_1100 := (nz_eq c_1100 (by omega))
      have c_1100 : rkm 0 1 0 (fSet (xs (i + 1)) (xs (i + 2))) = 0 := c_1100
      have hz9 : fSet (xs (i + 1)) (xs (i + 2)) = 0 := rkm_z (by unfold fSet rkm; (repeat' split) <;> omega) c_1100
      refine lv_aload_n hx hb dL_law_1103 rfl (lv_at hl 5 rfl) ?_
      refine lv_iconst (v := (nI 0)) hx hb dL_law_1104 (by decide) ?_
      refine va_lald hx hb hK hP 9 3 rfl rfl (vp_in_nI (n := 0) (by omega) (by omega)) dL_law_1105 ?_
      refine tl (show u.1 (nI 0).toNatClampNeg = ((nI (setA σ (xs (i + 1)) (xs (i + 2)))) : Int32).toInt64 from by rw [nI_clamp (by omega)]; exact hu.1 hz9) ?_
      refine lv_iload hx hb dL_law_1106 (lv_at hl 0 rfl) ?_
      refine ti (show (nI (if fSet (xs (i + 1)) (xs (i + 2)) = 0 then setA σ (xs (i + 1)) (xs (i + 2)) else 0)) = (nI (setA σ (xs (i + 1)) (xs (i + 2)))) from (by rw [if_pos hz9])) ?_
      refine lv_i2l (v := (nI (setA σ (xs (i + 1)) (xs (i + 2)))).toInt64) hx hb dL_law_1108 rfl ?_
      refine W.lcmp hx hb dL_law_1109 ?_
      refine lv_if_eq (tgt := 1115) hx hb dL_law_1110 (by decide) (fun c_1110 => ?_) (fun c_1110 => ?_)
      · have c_1110 := lc_eq c_1110
        refine lv_goto (tgt := 1691) hx hb dL_law_1115 (by decide) ?_
        exact kk u.2 (r9) (setR σ (xs (i + 1)) (xs (i + 2))) (if fSet (xs (i + 1)) (xs (i + 2)) = 0 then hiH Hh n σ else Hh) (if fSet (xs (i + 1)) (xs (i + 2)) = 0 then hiN n else n) K fl tx ln u.1 H locs ls (fI_mono hu.2 (by (try split) <;> omega) (by omega)) (mI_mono hr9.2 (by (try split) <;> omega) (by omega)) hP hD hS (lv_sub hl [2, 3, 4, 5, 6] rfl)
      · have c_1110 := lc_ne c_1110
        exact absurd rfl c_1110
  · have c_1093 := (nc_ne9 (by omega) (by omega) c_1093)
    exact absurd rfl c_1093
set_option maxHeartbeats 4000000 in
set_option maxRecDepth 100000 in
theorem lw_undo {pX : Program} {l : Launch} {eX : Env} {s : State} {mX : MethodId} {below : List Frame} {meth : Method} {cX : Code} {b L : Nat} {xs : Nat → Int32} {QX : State → Prop} {A : Nat → Prop} (hfl : l.stackTraces = false) (g : va_G) (cy : Nat → ClassId) (hx : pX.tables.exec = Jvm.exec) (hb : cX.code = cL_law) (hml : cX.maxLocals = 7) (hown : s.vm.findClass RL = some mX.cls) (hts : ∀ w ∈ wsL_law, w.before #[Value.ref b] s = true) (hA : ∀ q : Nat, s.heap.size ≤ q → A q) (hK : va_K g vwCl (Ty cy) s) (hX : Cx A s s.heap) (hY : Cy s) (hXs : va_X b L xs s s.heap) (hbl : b < s.heap.size) (hbA : ¬ A b) (hL : L ≤ 3072)
    {x a tr s0 s1 ma : Nat → Nat} {pa : Nat → Nat → Nat} {out i bd cells slots : Nat} {q : Sc} {r : Mc} {σ : Nat → Nat} {Hh : Nat → Nat → Nat} {n : Nat} {K : Nat → Nat → Nat} {fl : Nat → Bool} {tx : Nat → Nat} {ln : Nat} {f : Nat → Int64} {H : Heap} {locs : List Loc} {ls : Array Slot} (hi : i + 6 ≤ L) (hbd1 : 11880 ≤ bd) (hbd2 : bd ≤ 63000) (hc9 : cells ≤ 10000) (hs9 : slots ≤ 100000) (hI : fI bd q σ Hh n K fl tx ln) (hM : mI bd r σ Hh n K fl tx ln) (hP : va_P g vwCl (mQ cy ma r σ n fl tx ln ++ ([aJ cy out 1 f] ++ fQ cy x a tr s0 s1 pa q σ n fl tx ln)) H) (hD : va_D A (mQ cy ma r σ n fl tx ln ++ ([aJ cy out 1 f] ++ fQ cy x a tr s0 s1 pa q σ n fl tx ln))) (hS : va_S A s.heap H locs) (hl : lv_has ls 7 [(0, .ref b), (1, .ref (x 0)), (2, .ref (ma 0)), (3, .ref out), (4, .int (nI i))])
    (kk : ∀ (q : Sc) (r : Mc) (σ : Nat → Nat) (Hh : Nat → Nat → Nat) (n : Nat) (K : Nat → Nat → Nat) (fl : Nat → Bool) (tx : Nat → Nat) (ln : Nat) (f : Nat → Int64) (H : Heap) (locs : List Loc) (ls : Array Slot), fI (bd + 99) q σ Hh n K fl tx ln → mI (bd + 99) r σ Hh n K fl tx ln → va_P g vwCl (mQ cy ma r σ n fl tx ln ++ ([aJ cy out 1 f] ++ fQ cy x a tr s0 s1 pa q σ n fl tx ln)) H → va_D A (mQ cy ma r σ n fl tx ln ++ ([aJ cy out 1 f] ++ fQ cy x a tr s0 s1 pa q σ n fl tx ln)) → va_S A s.heap H locs → lv_has ls 7 [(0, .ref b), (1, .ref (x 0)), (2, .ref (ma 0)), (3, .ref out), (4, .int (nI i))] → W pX l eX room_1 s mX #[Value.ref b] below meth cX H locs (cells + 1) (slots + 6) QX (F0 mX 1691 ls [])) :
    W pX l eX room_1 s mX #[Value.ref b] below meth cX H locs cells slots QX (F0 mX 1118 ls []) := by
  have hl : lv_has ls 7 [(0, .ref b), (1, .ref (x 0)), (2, .ref (ma 0)), (3, .ref out), (4, .int (nI i))] := hl
  refine lv_aload_n hx hb dL_law_1118 rfl (lv_at hl 1 rfl) ?_
  refine lv_aload_n hx hb dL_law_1119 rfl (lv_at hl 3 rfl) ?_
  refine wr_callS (pre := mQ cy ma r σ n fl tx ln) (wc := ([aJ cy out 1 f] ++ fQ cy x a tr s0 s1 pa q σ n fl tx ln)) (vx_runSW (hh := [(0, 8, 11, 15)]) (As := [.ref (x 0), .ref out]) (rest := []) ⟨hx, hb, hml, hown, hts⟩ (c_L_undo l hfl g cy out f x a tr s0 s1 pa H.size bd q σ Hh n K fl tx ln  hI ) (vx_cwSW 2 hts (hl_in wd34_8 wd6_9 wd34_6 wd34_7) rfl rfl rfl (by decide +kernel) ⟨Nat.le_of_ble_eq_true rfl, Nat.le_of_ble_eq_true rfl⟩) (ps2 hK hP hD hS hA hX hY _ nd_suffix at_suffix) rfl rfl hl.1 rfl (lv_room (Nat.le_of_ble_eq_true rfl)) dL_law_1120 ⟨by show _ ≤ 601024; omega, by show _ ≤ 7293033; omega⟩) hP hD hS hA (fun _ => congrArg (fun z => out :: z) fQ_ad) (fun u H locs hu hP hD hS => ?_)
  have hP : va_P g vwCl (mQ cy ma r σ n fl tx ln ++ ([aJ cy out 1 u.1] ++ fQ cy x a tr s0 s1 pa u.2 (if fUnd n = 0 then Hh (n - 1) else σ) (if fUnd n = 0 then n - 1 else n) fl tx ln)) H := hP
  have hD : va_D A (mQ cy ma r σ n fl tx ln ++ ([aJ cy out 1 u.1] ++ fQ cy x a tr s0 s1 pa u.2 (if fUnd n = 0 then Hh (n - 1) else σ) (if fUnd n = 0 then n - 1 else n) fl tx ln)) := hD
  have hrk9 : rkm 0 0 1 (fUnd n) < 10 := by unfold rkm; (repeat' split) <;> omega
  show W _ _ _ _ _ _ _ _ _ _ _ _ _ _ _ (F0 mX 1123 ls [.int (nI (rkm 0 0 1 (fUnd n)))])
  refine lv_istore (lv' := [(5, .int (nI (rkm 0 0 1 (fUnd n)))), (0, .ref b), (1, .ref (x 0)), (2, .ref (ma 0)), (3, .ref out), (4, .int (nI i))]) hx hb dL_law_1123 hl (by decide) rfl (fun ls hl => ?_)
  refine lv_aload_n hx hb dL_law_1125 rfl (lv_at hl 3 rfl) ?_
  obtain ⟨hP, hD⟩ := sw_PD (L := []) (M := mQ cy ma r σ n fl tx ln) (T := ([aJ cy out 1 u.1] ++ fQ cy x a tr s0 s1 pa u.2 (if fUnd n = 0 then Hh (n - 1) else σ) (if fUnd n = 0 then n - 1 else n) fl tx ln)) hP hD
  have hP : va_P g vwCl (([aJ cy out 1 u.1] ++ fQ cy x a tr s0 s1 pa u.2 (if fUnd n = 0 then Hh (n - 1) else σ) (if fUnd n = 0 then n - 1 else n) fl tx ln) ++ mQ cy ma r σ n fl tx ln) H := hP
  have hD : va_D A (([aJ cy out 1 u.1] ++ fQ cy x a tr s0 s1 pa u.2 (if fUnd n = 0 then Hh (n - 1) else σ) (if fUnd n = 0 then n - 1 else n) fl tx ln) ++ mQ cy ma r σ n fl tx ln) := hD
  refine wr_callS (pre := ([aJ cy out 1 u.1] ++ fQ cy x a tr s0 s1 pa u.2 (if fUnd n = 0 then Hh (n - 1) else σ) (if fUnd n = 0 then n - 1 else n) fl tx ln)) (wc := mQ cy ma r σ n fl tx ln) (va_runV (As := []) (rest := []) ⟨hx, hb, hml, hown, hts⟩ (c_X8_undo l g cy ma H.size bd r σ Hh n K fl tx ln  hM (fI_und hI)) ⟨cB 0 hts wd35_0 wd1_5 wd34_21 rfl rfl (by decide +kernel) ⟨Nat.le_of_ble_eq_true rfl, Nat.le_of_ble_eq_true rfl⟩, hts _ wd34_22, hts _ wd34_23⟩ (pvS hK hP hD hS hA hX 6 rfl rfl) rfl rfl hl.1 rfl (lv_room (Nat.le_of_ble_eq_true rfl)) dL_law_1126 ⟨by show _ ≤ 601024; omega, by show _ ≤ 7293033; omega⟩) hP hD hS hA (fun _ => mQ_ad) (fun r9 H locs hr9 hP hD hS => ?_)
  have hP : va_P g vwCl (([aJ cy out 1 u.1] ++ fQ cy x a tr s0 s1 pa u.2 (if fUnd n = 0 then Hh (n - 1) else σ) (if fUnd n = 0 then n - 1 else n) fl tx ln) ++ (mQ cy ma r9 (if fUnd n = 0 then Hh (n - 1) else σ) (if fUnd n = 0 then n - 1 else n) fl tx ln)) H := hP
  have hD : va_D A (([aJ cy out 1 u.1] ++ fQ cy x a tr s0 s1 pa u.2 (if fUnd n = 0 then Hh (n - 1) else σ) (if fUnd n = 0 then n - 1 else n) fl tx ln) ++ (mQ cy ma r9 (if fUnd n = 0 then Hh (n - 1) else σ) (if fUnd n = 0 then n - 1 else n) fl tx ln)) := hD
  obtain ⟨hP, hD⟩ := sw_PD (L := []) (M := ([aJ cy out 1 u.1] ++ fQ cy x a tr s0 s1 pa u.2 (if fUnd n = 0 then Hh (n - 1) else σ) (if fUnd n = 0 then n - 1 else n) fl tx ln)) (T := (mQ cy ma r9 (if fUnd n = 0 then Hh (n - 1) else σ) (if fUnd n = 0 then n - 1 else n) fl tx ln)) hP hD
  have hP : va_P g vwCl ((mQ cy ma r9 (if fUnd n = 0 then Hh (n - 1) else σ) (if fUnd n = 0 then n - 1 else n) fl tx ln) ++ ([aJ cy out 1 u.1] ++ fQ cy x a tr s0 s1 pa u.2 (if fUnd n = 0 then Hh (n - 1) else σ) (if fUnd n = 0 then n - 1 else n) fl tx ln)) H := hP
  have hD : va_D A ((mQ cy ma r9 (if fUnd n = 0 then Hh (n - 1) else σ) (if fUnd n = 0 then n - 1 else n) fl tx ln) ++ ([aJ cy out 1 u.1] ++ fQ cy x a tr s0 s1 pa u.2 (if fUnd n = 0 then Hh (n - 1) else σ) (if fUnd n = 0 then n - 1 else n) fl tx ln)) := hD
  show W _ _ _ _ _ _ _ _ _ _ _ _ _ _ _ (F0 mX 1129 ls [.int (nI (if fUnd n = 0 then n - 1 else 0))])
  refine lv_istore (lv' := [(6, .int (nI (if fUnd n = 0 then n - 1 else 0))), (5, .int (nI (rkm 0 0 1 (fUnd n)))), (0, .ref b), (1, .ref (x 0)), (2, .ref (ma 0)), (3, .ref out), (4, .int (nI i))]) hx hb dL_law_1129 hl (by decide) rfl (fun ls hl => ?_)
  refine lv_aload_n hx hb dL_law_1131 rfl (lv_at hl 4 rfl) ?_
  obtain ⟨hP, hD⟩ := sw_PD (L := []) (M := (mQ cy ma r9 (if fUnd n = 0 then Hh (n - 1) else σ) (if fUnd n = 0 then n - 1 else n) fl tx ln)) (T := ([aJ cy out 1 u.1] ++ fQ cy x a tr s0 s1 pa u.2 (if fUnd n = 0 then Hh (n - 1) else σ) (if fUnd n = 0 then n - 1 else n) fl tx ln)) hP hD
  have hP : va_P g vwCl (([aJ cy out 1 u.1] ++ fQ cy x a tr s0 s1 pa u.2 (if fUnd n = 0 then Hh (n - 1) else σ) (if fUnd n = 0 then n - 1 else n) fl tx ln) ++ (mQ cy ma r9 (if fUnd n = 0 then Hh (n - 1) else σ) (if fUnd n = 0 then n - 1 else n) fl tx ln)) H := hP
  have hD : va_D A (([aJ cy out 1 u.1] ++ fQ cy x a tr s0 s1 pa u.2 (if fUnd n = 0 then Hh (n - 1) else σ) (if fUnd n = 0 then n - 1 else n) fl tx ln) ++ (mQ cy ma r9 (if fUnd n = 0 then Hh (n - 1) else σ) (if fUnd n = 0 then n - 1 else n) fl tx ln)) := hD
  refine rd_call (va_runV (As := []) (rest := []) ⟨hx, hb, hml, hown, hts⟩ (c_X8_thrown l g cy H.size ma r9.1 r9.2.1 r9.2.2.1 r9.2.2.2.1 r9.2.2.2.2.1 r9.2.2.2.2.2.1 r9.2.2.2.2.2.2.1 r9.2.2.2.2.2.2.2 (if fUnd n = 0 then Hh (n - 1) else σ) (if fUnd n = 0 then n - 1 else n) fl tx ln) ⟨cB 0 hts wd8_2 wd1_5 wd7_23 rfl rfl (by decide +kernel) ⟨Nat.le_of_ble_eq_true rfl, Nat.le_of_ble_eq_true rfl⟩, hts _ wd8_0, hts _ wd8_1⟩ (pvS (wc := (mQ cy ma r9 (if fUnd n = 0 then Hh (n - 1) else σ) (if fUnd n = 0 then n - 1 else n) fl tx ln)) hK hP hD hS hA hX 6 rfl rfl) rfl rfl hl.1 rfl (lv_room (Nat.le_of_ble_eq_true rfl)) dL_law_1132 ⟨by show _ ≤ 601024; omega, by show _ ≤ 7293033; omega⟩) ?_
  obtain ⟨hP, hD⟩ := sw_PD (L := []) (M := ([aJ cy out 1 u.1] ++ fQ cy x a tr s0 s1 pa u.2 (if fUnd n = 0 then Hh (n - 1) else σ) (if fUnd n = 0 then n - 1 else n) fl tx ln)) (T := (mQ cy ma r9 (if fUnd n = 0 then Hh (n - 1) else σ) (if fUnd n = 0 then n - 1 else n) fl tx ln)) hP hD
  have hP : va_P g vwCl ((mQ cy ma r9 (if fUnd n = 0 then Hh (n - 1) else σ) (if fUnd n = 0 then n - 1 else n) fl tx ln) ++ ([aJ cy out 1 u.1] ++ fQ cy x a tr s0 s1 pa u.2 (if fUnd n = 0 then Hh (n - 1) else σ) (if fUnd n = 0 then n - 1 else n) fl tx ln)) H := hP
  have hD : va_D A ((mQ cy ma r9 (if fUnd n = 0 then Hh (n - 1) else σ) (if fUnd n = 0 then n - 1 else n) fl tx ln) ++ ([aJ cy out 1 u.1] ++ fQ cy x a tr s0 s1 pa u.2 (if fUnd n = 0 then Hh (n - 1) else σ) (if fUnd n = 0 then n - 1 else n) fl tx ln)) := hD
  refine ti (show nI r9.2.2.2.2.2.2.2 = nI (rkm 0 0 1 (fUnd n)) from congrArg nI hr9.1) ?_
  show W _ _ _ _ _ _ _ _ _ _ _ _ _ _ _ (F0 mX 1135 ls [.int (nI (rkm 0 0 1 (fUnd n)))])
  refine lv_iload hx hb dL_law_1135 (lv_at hl 1 rfl) ?_
  refine lv_icmp_eq (tgt := 1142) hx hb dL_law_1137 (by decide) (fun c_1137 => ?_) (fun c_1137 => ?_)
  · have c_1137 := (nc_eq9 (by omega) (by omega) c_1137)
    refine lv_iload hx hb dL_law_1142 (lv_at hl 1 rfl) ?_
    refine lv_if_ne (tgt := 1159) hx hb dL_law_1144 (by decide) (fun c_1144 => ?_) (fun c_1144 => ?_)
    · have c_1144 := (nz_ne c_1144 (by omega))
      refine lv_goto (tgt := 1691) hx hb dL_law_1159 (by decide) ?_
      exact kk u.2 (r9) (if fUnd n = 0 then Hh (n - 1) else σ) Hh (if fUnd n = 0 then n - 1 else n) K fl tx ln u.1 H locs ls (fI_mono hu.2 (by (try split) <;> omega) (by omega)) (mI_mono hr9.2 (by (try split) <;> omega) (by omega)) hP hD hS (lv_sub hl [2, 3, 4, 5, 6] rfl)
    · have c_1144 := (nz_eq c_1144 (by omega))
      have c_1144 : rkm 0 0 1 (fUnd n) = 0 := c_1144
      have hz9 : fUnd n = 0 := rkm_z (by unfold fUnd rkm; (repeat' split) <;> omega) c_1144
      refine lv_aload_n hx hb dL_law_1147 rfl (lv_at hl 5 rfl) ?_
      refine lv_iconst (v := (nI 0)) hx hb dL_law_1148 (by decide) ?_
      refine va_lald hx hb hK hP 9 3 rfl rfl (vp_in_nI (n := 0) (by omega) (by omega)) dL_law_1149 ?_
      refine tl (show u.1 (nI 0).toNatClampNeg = ((nI (n - 1)) : Int32).toInt64 from by rw [nI_clamp (by omega)]; exact hu.1 hz9) ?_
      refine lv_iload hx hb dL_law_1150 (lv_at hl 0 rfl) ?_
      refine ti (show (nI (if fUnd n = 0 then n - 1 else 0)) = (nI (n - 1)) from (by rw [if_pos hz9])) ?_
      refine lv_i2l (v := (nI (n - 1)).toInt64) hx hb dL_law_1152 rfl ?_
      refine W.lcmp hx hb dL_law_1153 ?_
      refine lv_if_eq (tgt := 1159) hx hb dL_law_1154 (by decide) (fun c_1154 => ?_) (fun c_1154 => ?_)
      · have c_1154 := lc_eq c_1154
        refine lv_goto (tgt := 1691) hx hb dL_law_1159 (by decide) ?_
        exact kk u.2 (r9) (if fUnd n = 0 then Hh (n - 1) else σ) Hh (if fUnd n = 0 then n - 1 else n) K fl tx ln u.1 H locs ls (fI_mono hu.2 (by (try split) <;> omega) (by omega)) (mI_mono hr9.2 (by (try split) <;> omega) (by omega)) hP hD hS (lv_sub hl [2, 3, 4, 5, 6] rfl)
      · have c_1154 := lc_ne c_1154
        exact absurd rfl c_1154
  · have c_1137 := (nc_ne9 (by omega) (by omega) c_1137)
    exact absurd rfl c_1137
set_option maxHeartbeats 4000000 in
set_option maxRecDepth 100000 in
theorem lw_canBe {pX : Program} {l : Launch} {eX : Env} {s : State} {mX : MethodId} {below : List Frame} {meth : Method} {cX : Code} {b L : Nat} {xs : Nat → Int32} {QX : State → Prop} {A : Nat → Prop} (hfl : l.stackTraces = false) (g : va_G) (cy : Nat → ClassId) (hx : pX.tables.exec = Jvm.exec) (hb : cX.code = cL_law) (hml : cX.maxLocals = 7) (hown : s.vm.findClass RL = some mX.cls) (hts : ∀ w ∈ wsL_law, w.before #[Value.ref b] s = true) (hA : ∀ q : Nat, s.heap.size ≤ q → A q) (hK : va_K g vwCl (Ty cy) s) (hX : Cx A s s.heap) (hY : Cy s) (hXs : va_X b L xs s s.heap) (hbl : b < s.heap.size) (hbA : ¬ A b) (hL : L ≤ 3072)
    {x a tr s0 s1 ma : Nat → Nat} {pa : Nat → Nat → Nat} {out i bd cells slots : Nat} {q : Sc} {r : Mc} {σ : Nat → Nat} {Hh : Nat → Nat → Nat} {n : Nat} {K : Nat → Nat → Nat} {fl : Nat → Bool} {tx : Nat → Nat} {ln : Nat} {f : Nat → Int64} {H : Heap} {locs : List Loc} {ls : Array Slot} (hi : i + 6 ≤ L) (hbd1 : 11880 ≤ bd) (hbd2 : bd ≤ 63000) (hc9 : cells ≤ 10000) (hs9 : slots ≤ 100000) (hI : fI bd q σ Hh n K fl tx ln) (hM : mI bd r σ Hh n K fl tx ln) (hP : va_P g vwCl (mQ cy ma r σ n fl tx ln ++ ([aJ cy out 1 f] ++ fQ cy x a tr s0 s1 pa q σ n fl tx ln)) H) (hD : va_D A (mQ cy ma r σ n fl tx ln ++ ([aJ cy out 1 f] ++ fQ cy x a tr s0 s1 pa q σ n fl tx ln))) (hS : va_S A s.heap H locs) (hl : lv_has ls 7 [(0, .ref b), (1, .ref (x 0)), (2, .ref (ma 0)), (3, .ref out), (4, .int (nI i))])
    (kk : ∀ (q : Sc) (r : Mc) (σ : Nat → Nat) (Hh : Nat → Nat → Nat) (n : Nat) (K : Nat → Nat → Nat) (fl : Nat → Bool) (tx : Nat → Nat) (ln : Nat) (f : Nat → Int64) (H : Heap) (locs : List Loc) (ls : Array Slot), fI (bd + 99) q σ Hh n K fl tx ln → mI (bd + 99) r σ Hh n K fl tx ln → va_P g vwCl (mQ cy ma r σ n fl tx ln ++ ([aJ cy out 1 f] ++ fQ cy x a tr s0 s1 pa q σ n fl tx ln)) H → va_D A (mQ cy ma r σ n fl tx ln ++ ([aJ cy out 1 f] ++ fQ cy x a tr s0 s1 pa q σ n fl tx ln)) → va_S A s.heap H locs → lv_has ls 7 [(0, .ref b), (1, .ref (x 0)), (2, .ref (ma 0)), (3, .ref out), (4, .int (nI i))] → W pX l eX room_1 s mX #[Value.ref b] below meth cX H locs (cells + 1) (slots + 6) QX (F0 mX 1691 ls [])) :
    W pX l eX room_1 s mX #[Value.ref b] below meth cX H locs cells slots QX (F0 mX 1162 ls []) := by
  have hl : lv_has ls 7 [(0, .ref b), (1, .ref (x 0)), (2, .ref (ma 0)), (3, .ref out), (4, .int (nI i))] := hl
  refine lv_aload_n hx hb dL_law_1162 rfl (lv_at hl 1 rfl) ?_
  refine lv_aload_n hx hb dL_law_1163 rfl (lv_at hl 0 rfl) ?_
  refine lv_iload hx hb dL_law_1164 (lv_at hl 4 rfl) ?_
  refine lv_iconst (v := (nI 1)) hx hb dL_law_1166 (by decide) ?_
  refine lv_iadd hx hb dL_law_1167 ?_
  refine ti (nI_add i 1) ?_
  refine va_sld hx hb hXs hbl hbA hS (vp_in_nI (n := (i + 1)) (by omega) (by omega)) dL_law_1168 ?_
  refine ti (show xs (nI (i + 1)).toNatClampNeg = xs (i + 1) from by rw [nI_clamp (by omega)]) ?_
  refine lv_aload_n hx hb dL_law_1169 rfl (lv_at hl 3 rfl) ?_
  refine wr_callS (pre := mQ cy ma r σ n fl tx ln) (wc := ([aJ cy out 1 f] ++ fQ cy x a tr s0 s1 pa q σ n fl tx ln)) (vx_runSW (hh := [(0, 9, 12, 28), (0, 9, 15, 15)]) (As := [.ref (x 0), .int (xs (i + 1)), .ref out]) (rest := []) ⟨hx, hb, hml, hown, hts⟩ (c_L_canBe l hfl g cy out f x a tr s0 s1 pa H.size bd q σ Hh n K fl tx ln (xs (i + 1)) hI ) (vx_cwSW 3 hts (hl_in wd35_3 wd6_9 wd35_1 wd35_2) rfl rfl rfl (by decide +kernel) ⟨Nat.le_of_ble_eq_true rfl, Nat.le_of_ble_eq_true rfl⟩) (ps2 hK hP hD hS hA hX hY _ nd_suffix at_suffix) rfl rfl hl.1 rfl (lv_room (Nat.le_of_ble_eq_true rfl)) dL_law_1170 ⟨by show _ ≤ 601024; omega, by show _ ≤ 7293033; omega⟩) hP hD hS hA (fun _ => congrArg (fun z => out :: z) fQ_ad) (fun u H locs hu hP hD hS => ?_)
  have hP : va_P g vwCl (mQ cy ma r σ n fl tx ln ++ ([aJ cy out 1 u.1] ++ fQ cy x a tr s0 s1 pa u.2 σ n fl tx ln)) H := hP
  have hD : va_D A (mQ cy ma r σ n fl tx ln ++ ([aJ cy out 1 u.1] ++ fQ cy x a tr s0 s1 pa u.2 σ n fl tx ln)) := hD
  have hrk9 : rkm 1 0 2 (fAsk σ (xs (i + 1))) < 10 := by unfold rkm; (repeat' split) <;> omega
  show W _ _ _ _ _ _ _ _ _ _ _ _ _ _ _ (F0 mX 1173 ls [.int (nI (rkm 1 0 2 (fAsk σ (xs (i + 1)))))])
  refine lv_istore (lv' := [(5, .int (nI (rkm 1 0 2 (fAsk σ (xs (i + 1)))))), (0, .ref b), (1, .ref (x 0)), (2, .ref (ma 0)), (3, .ref out), (4, .int (nI i))]) hx hb dL_law_1173 hl (by decide) rfl (fun ls hl => ?_)
  refine lv_aload_n hx hb dL_law_1175 rfl (lv_at hl 3 rfl) ?_
  refine lv_aload_n hx hb dL_law_1176 rfl (lv_at hl 1 rfl) ?_
  refine lv_iload hx hb dL_law_1177 (lv_at hl 5 rfl) ?_
  refine lv_iconst (v := (nI 1)) hx hb dL_law_1179 (by decide) ?_
  refine lv_iadd hx hb dL_law_1180 ?_
  refine ti (nI_add i 1) ?_
  refine va_sld hx hb hXs hbl hbA hS (vp_in_nI (n := (i + 1)) (by omega) (by omega)) dL_law_1181 ?_
  refine ti (show xs (nI (i + 1)).toNatClampNeg = xs (i + 1) from by rw [nI_clamp (by omega)]) ?_
  obtain ⟨hP, hD⟩ := sw_PD (L := []) (M := mQ cy ma r σ n fl tx ln) (T := ([aJ cy out 1 u.1] ++ fQ cy x a tr s0 s1 pa u.2 σ n fl tx ln)) hP hD
  have hP : va_P g vwCl (([aJ cy out 1 u.1] ++ fQ cy x a tr s0 s1 pa u.2 σ n fl tx ln) ++ mQ cy ma r σ n fl tx ln) H := hP
  have hD : va_D A (([aJ cy out 1 u.1] ++ fQ cy x a tr s0 s1 pa u.2 σ n fl tx ln) ++ mQ cy ma r σ n fl tx ln) := hD
  refine wr_callS (pre := ([aJ cy out 1 u.1] ++ fQ cy x a tr s0 s1 pa u.2 σ n fl tx ln)) (wc := mQ cy ma r σ n fl tx ln) (va_runV (As := [.int (xs (i + 1))]) (rest := []) ⟨hx, hb, hml, hown, hts⟩ (c_X8_canBe l g cy ma H.size bd r σ Hh n K fl tx ln (xs (i + 1)) hM ) ⟨cB 1 hts wd35_20 wd1_5 wd35_17 rfl rfl (by decide +kernel) ⟨Nat.le_of_ble_eq_true rfl, Nat.le_of_ble_eq_true rfl⟩, hts _ wd35_18, hts _ wd35_19⟩ (pvS hK hP hD hS hA hX 6 rfl rfl) rfl rfl hl.1 rfl (lv_room (Nat.le_of_ble_eq_true rfl)) dL_law_1182 ⟨by show _ ≤ 601024; omega, by show _ ≤ 7293033; omega⟩) hP hD hS hA (fun _ => mQ_ad) (fun r9 H locs hr9 hP hD hS => ?_)
  have hP : va_P g vwCl (([aJ cy out 1 u.1] ++ fQ cy x a tr s0 s1 pa u.2 σ n fl tx ln) ++ (mQ cy ma r9 σ n fl tx ln)) H := hP
  have hD : va_D A (([aJ cy out 1 u.1] ++ fQ cy x a tr s0 s1 pa u.2 σ n fl tx ln) ++ (mQ cy ma r9 σ n fl tx ln)) := hD
  obtain ⟨hP, hD⟩ := sw_PD (L := []) (M := ([aJ cy out 1 u.1] ++ fQ cy x a tr s0 s1 pa u.2 σ n fl tx ln)) (T := (mQ cy ma r9 σ n fl tx ln)) hP hD
  have hP : va_P g vwCl ((mQ cy ma r9 σ n fl tx ln) ++ ([aJ cy out 1 u.1] ++ fQ cy x a tr s0 s1 pa u.2 σ n fl tx ln)) H := hP
  have hD : va_D A ((mQ cy ma r9 σ n fl tx ln) ++ ([aJ cy out 1 u.1] ++ fQ cy x a tr s0 s1 pa u.2 σ n fl tx ln)) := hD
  show W _ _ _ _ _ _ _ _ _ _ _ _ _ _ _ (F0 mX 1185 ls [.int (nI (if fAsk σ (xs (i + 1)) = 0 then mk (cbe σ (xs (i + 1)).toNatClampNeg) 12 else 0))])
  refine lv_istore (lv' := [(6, .int (nI (if fAsk σ (xs (i + 1)) = 0 then mk (cbe σ (xs (i + 1)).toNatClampNeg) 12 else 0))), (5, .int (nI (rkm 1 0 2 (fAsk σ (xs (i + 1)))))), (0, .ref b), (1, .ref (x 0)), (2, .ref (ma 0)), (3, .ref out), (4, .int (nI i))]) hx hb dL_law_1185 hl (by decide) rfl (fun ls hl => ?_)
  refine lv_aload_n hx hb dL_law_1187 rfl (lv_at hl 4 rfl) ?_
  obtain ⟨hP, hD⟩ := sw_PD (L := []) (M := (mQ cy ma r9 σ n fl tx ln)) (T := ([aJ cy out 1 u.1] ++ fQ cy x a tr s0 s1 pa u.2 σ n fl tx ln)) hP hD
  have hP : va_P g vwCl (([aJ cy out 1 u.1] ++ fQ cy x a tr s0 s1 pa u.2 σ n fl tx ln) ++ (mQ cy ma r9 σ n fl tx ln)) H := hP
  have hD : va_D A (([aJ cy out 1 u.1] ++ fQ cy x a tr s0 s1 pa u.2 σ n fl tx ln) ++ (mQ cy ma r9 σ n fl tx ln)) := hD
  refine rd_call (va_runV (As := []) (rest := []) ⟨hx, hb, hml, hown, hts⟩ (c_X8_thrown l g cy H.size ma r9.1 r9.2.1 r9.2.2.1 r9.2.2.2.1 r9.2.2.2.2.1 r9.2.2.2.2.2.1 r9.2.2.2.2.2.2.1 r9.2.2.2.2.2.2.2 σ n fl tx ln) ⟨cB 0 hts wd8_2 wd1_5 wd7_23 rfl rfl (by decide +kernel) ⟨Nat.le_of_ble_eq_true rfl, Nat.le_of_ble_eq_true rfl⟩, hts _ wd8_0, hts _ wd8_1⟩ (pvS (wc := (mQ cy ma r9 σ n fl tx ln)) hK hP hD hS hA hX 6 rfl rfl) rfl rfl hl.1 rfl (lv_room (Nat.le_of_ble_eq_true rfl)) dL_law_1188 ⟨by show _ ≤ 601024; omega, by show _ ≤ 7293033; omega⟩) ?_
  obtain ⟨hP, hD⟩ := sw_PD (L := []) (M := ([aJ cy out 1 u.1] ++ fQ cy x a tr s0 s1 pa u.2 σ n fl tx ln)) (T := (mQ cy ma r9 σ n fl tx ln)) hP hD
  have hP : va_P g vwCl ((mQ cy ma r9 σ n fl tx ln) ++ ([aJ cy out 1 u.1] ++ fQ cy x a tr s0 s1 pa u.2 σ n fl tx ln)) H := hP
  have hD : va_D A ((mQ cy ma r9 σ n fl tx ln) ++ ([aJ cy out 1 u.1] ++ fQ cy x a tr s0 s1 pa u.2 σ n fl tx ln)) := hD
  refine ti (show nI r9.2.2.2.2.2.2.2 = nI (rkm 1 0 2 (fAsk σ (xs (i + 1)))) from congrArg nI hr9.1) ?_
  show W _ _ _ _ _ _ _ _ _ _ _ _ _ _ _ (F0 mX 1191 ls [.int (nI (rkm 1 0 2 (fAsk σ (xs (i + 1)))))])
  refine lv_iload hx hb dL_law_1191 (lv_at hl 1 rfl) ?_
  refine lv_icmp_eq (tgt := 1198) hx hb dL_law_1193 (by decide) (fun c_1193 => ?_) (fun c_1193 => ?_)
  · have c_1193 := (nc_eq9 (by omega) (by omega) c_1193)
    refine lv_iload hx hb dL_law_1198 (lv_at hl 1 rfl) ?_
    refine lv_if_ne (tgt := 1215) hx hb dL_law_1200 (by decide) (fun c_1200 => ?_) (fun c_1200 => ?_)
    · have c_1200 := (nz_ne c_1200 (by omega))
      refine lv_goto (tgt := 1691) hx hb dL_law_1215 (by decide) ?_
      exact kk u.2 (r9) σ Hh n K fl tx ln u.1 H locs ls (fI_mono hu.2 (by (try split) <;> omega) (by omega)) (mI_mono hr9.2 (by (try split) <;> omega) (by omega)) hP hD hS (lv_sub hl [2, 3, 4, 5, 6] rfl)
    · have c_1200 := (nz_eq c_1200 (by omega))
      have c_1200 : rkm 1 0 2 (fAsk σ (xs (i + 1))) = 0 := c_1200
      have hz9 : fAsk σ (xs (i + 1)) = 0 := rkm_z (by unfold fAsk rkm; (repeat' split) <;> omega) c_1200
      refine lv_aload_n hx hb dL_law_1203 rfl (lv_at hl 5 rfl) ?_
      refine lv_iconst (v := (nI 0)) hx hb dL_law_1204 (by decide) ?_
      refine va_lald hx hb hK hP 9 3 rfl rfl (vp_in_nI (n := 0) (by omega) (by omega)) dL_law_1205 ?_
      refine tl (show u.1 (nI 0).toNatClampNeg = ((nI (mk (cbe σ (xs (i + 1)).toNatClampNeg) 12)) : Int32).toInt64 from by rw [nI_clamp (by omega)]; exact hu.1 hz9) ?_
      refine lv_iload hx hb dL_law_1206 (lv_at hl 0 rfl) ?_
      refine ti (show (nI (if fAsk σ (xs (i + 1)) = 0 then mk (cbe σ (xs (i + 1)).toNatClampNeg) 12 else 0)) = (nI (mk (cbe σ (xs (i + 1)).toNatClampNeg) 12)) from (by rw [if_pos hz9])) ?_
      refine lv_i2l (v := (nI (mk (cbe σ (xs (i + 1)).toNatClampNeg) 12)).toInt64) hx hb dL_law_1208 rfl ?_
      refine W.lcmp hx hb dL_law_1209 ?_
      refine lv_if_eq (tgt := 1215) hx hb dL_law_1210 (by decide) (fun c_1210 => ?_) (fun c_1210 => ?_)
      · have c_1210 := lc_eq c_1210
        refine lv_goto (tgt := 1691) hx hb dL_law_1215 (by decide) ?_
        exact kk u.2 (r9) σ Hh n K fl tx ln u.1 H locs ls (fI_mono hu.2 (by (try split) <;> omega) (by omega)) (mI_mono hr9.2 (by (try split) <;> omega) (by omega)) hP hD hS (lv_sub hl [2, 3, 4, 5, 6] rfl)
      · have c_1210 := lc_ne c_1210
        exact absurd rfl c_1210
  · have c_1193 := (nc_ne9 (by omega) (by omega) c_1193)
    exact absurd rfl c_1193
set_option maxHeartbeats 4000000 in
set_option maxRecDepth 100000 in
theorem lw_watch {pX : Program} {l : Launch} {eX : Env} {s : State} {mX : MethodId} {below : List Frame} {meth : Method} {cX : Code} {b L : Nat} {xs : Nat → Int32} {QX : State → Prop} {A : Nat → Prop} (hfl : l.stackTraces = false) (g : va_G) (cy : Nat → ClassId) (hx : pX.tables.exec = Jvm.exec) (hb : cX.code = cL_law) (hml : cX.maxLocals = 7) (hown : s.vm.findClass RL = some mX.cls) (hts : ∀ w ∈ wsL_law, w.before #[Value.ref b] s = true) (hA : ∀ q : Nat, s.heap.size ≤ q → A q) (hK : va_K g vwCl (Ty cy) s) (hX : Cx A s s.heap) (hY : Cy s) (hXs : va_X b L xs s s.heap) (hbl : b < s.heap.size) (hbA : ¬ A b) (hL : L ≤ 3072)
    {x a tr s0 s1 ma : Nat → Nat} {pa : Nat → Nat → Nat} {out i bd cells slots : Nat} {q : Sc} {r : Mc} {σ : Nat → Nat} {Hh : Nat → Nat → Nat} {n : Nat} {K : Nat → Nat → Nat} {fl : Nat → Bool} {tx : Nat → Nat} {ln : Nat} {f : Nat → Int64} {H : Heap} {locs : List Loc} {ls : Array Slot} (hi : i + 6 ≤ L) (hbd1 : 11880 ≤ bd) (hbd2 : bd ≤ 63000) (hc9 : cells ≤ 10000) (hs9 : slots ≤ 100000) (hI : fI bd q σ Hh n K fl tx ln) (hM : mI bd r σ Hh n K fl tx ln) (hP : va_P g vwCl (mQ cy ma r σ n fl tx ln ++ ([aJ cy out 1 f] ++ fQ cy x a tr s0 s1 pa q σ n fl tx ln)) H) (hD : va_D A (mQ cy ma r σ n fl tx ln ++ ([aJ cy out 1 f] ++ fQ cy x a tr s0 s1 pa q σ n fl tx ln))) (hS : va_S A s.heap H locs) (hl : lv_has ls 7 [(0, .ref b), (1, .ref (x 0)), (2, .ref (ma 0)), (3, .ref out), (4, .int (nI i))])
    (kk : ∀ (q : Sc) (r : Mc) (σ : Nat → Nat) (Hh : Nat → Nat → Nat) (n : Nat) (K : Nat → Nat → Nat) (fl : Nat → Bool) (tx : Nat → Nat) (ln : Nat) (f : Nat → Int64) (H : Heap) (locs : List Loc) (ls : Array Slot), fI (bd + 99) q σ Hh n K fl tx ln → mI (bd + 99) r σ Hh n K fl tx ln → va_P g vwCl (mQ cy ma r σ n fl tx ln ++ ([aJ cy out 1 f] ++ fQ cy x a tr s0 s1 pa q σ n fl tx ln)) H → va_D A (mQ cy ma r σ n fl tx ln ++ ([aJ cy out 1 f] ++ fQ cy x a tr s0 s1 pa q σ n fl tx ln)) → va_S A s.heap H locs → lv_has ls 7 [(0, .ref b), (1, .ref (x 0)), (2, .ref (ma 0)), (3, .ref out), (4, .int (nI i))] → W pX l eX room_1 s mX #[Value.ref b] below meth cX H locs (cells + 1) (slots + 6) QX (F0 mX 1691 ls [])) :
    W pX l eX room_1 s mX #[Value.ref b] below meth cX H locs cells slots QX (F0 mX 1218 ls []) := by
  have hl : lv_has ls 7 [(0, .ref b), (1, .ref (x 0)), (2, .ref (ma 0)), (3, .ref out), (4, .int (nI i))] := hl
  refine lv_aload_n hx hb dL_law_1218 rfl (lv_at hl 1 rfl) ?_
  refine wr_callS (pre := (mQ cy ma r σ n fl tx ln ++ [aJ cy out 1 f])) (wc := fQ cy x a tr s0 s1 pa q σ n fl tx ln) (va_runV (As := []) (rest := []) ⟨hx, hb, hml, hown, hts⟩ (c_X7_watch l g cy x a tr s0 s1 pa H.size bd q σ Hh n K fl tx ln hI) ⟨cB 0 hts wd36_4 wd1_2 wd36_1 rfl rfl (by decide +kernel) ⟨Nat.le_of_ble_eq_true rfl, Nat.le_of_ble_eq_true rfl⟩, hts _ wd36_2, hts _ wd36_3⟩ (pvS (pre := (mQ cy ma r σ n fl tx ln ++ [aJ cy out 1 f])) (wc := fQ cy x a tr s0 s1 pa q σ n fl tx ln) hK (by rw [List.append_assoc]; exact hP) (by rw [List.append_assoc]; exact hD) hS hA hX 5 rfl rfl) rfl rfl hl.1 rfl (lv_room (Nat.le_of_ble_eq_true rfl)) dL_law_1219 ⟨by show _ ≤ 601024; omega, by show _ ≤ 7293033; omega⟩) (by rw [List.append_assoc]; exact hP) (by rw [List.append_assoc]; exact hD) hS hA (fun _ => fQ_ad) (fun u H locs hu hP hD hS => ?_)
  rw [List.append_assoc] at hP hD
  have hP : va_P g vwCl (mQ cy ma r σ n fl tx ln ++ ([aJ cy out 1 f] ++ fQ cy x a tr s0 s1 pa u σ n fl tx ln)) H := hP
  have hD : va_D A (mQ cy ma r σ n fl tx ln ++ ([aJ cy out 1 f] ++ fQ cy x a tr s0 s1 pa u σ n fl tx ln)) := hD
  show W _ _ _ _ _ _ _ _ _ _ _ _ _ _ _ (F0 mX 1222 ls [.int (nI (wat σ))])
  refine lv_aload_n hx hb dL_law_1222 rfl (lv_at hl 2 rfl) ?_
  obtain ⟨hP, hD⟩ := sw_PD (L := []) (M := mQ cy ma r σ n fl tx ln) (T := ([aJ cy out 1 f] ++ fQ cy x a tr s0 s1 pa u σ n fl tx ln)) hP hD
  have hP : va_P g vwCl (([aJ cy out 1 f] ++ fQ cy x a tr s0 s1 pa u σ n fl tx ln) ++ mQ cy ma r σ n fl tx ln) H := hP
  have hD : va_D A (([aJ cy out 1 f] ++ fQ cy x a tr s0 s1 pa u σ n fl tx ln) ++ mQ cy ma r σ n fl tx ln) := hD
  refine wr_callS (pre := ([aJ cy out 1 f] ++ fQ cy x a tr s0 s1 pa u σ n fl tx ln)) (wc := mQ cy ma r σ n fl tx ln) (va_runV (As := []) (rest := [.int (nI (wat σ))]) ⟨hx, hb, hml, hown, hts⟩ (c_X8_watch l g cy ma H.size bd r σ Hh n K fl tx ln  hM ) ⟨cB 0 hts wd36_21 wd1_5 wd36_18 rfl rfl (by decide +kernel) ⟨Nat.le_of_ble_eq_true rfl, Nat.le_of_ble_eq_true rfl⟩, hts _ wd36_19, hts _ wd36_20⟩ (pvS hK hP hD hS hA hX 6 rfl rfl) rfl rfl hl.1 rfl (lv_room (Nat.le_of_ble_eq_true rfl)) dL_law_1223 ⟨by show _ ≤ 601024; omega, by show _ ≤ 7293033; omega⟩) hP hD hS hA (fun _ => mQ_ad) (fun r9 H locs hr9 hP hD hS => ?_)
  have hP : va_P g vwCl (([aJ cy out 1 f] ++ fQ cy x a tr s0 s1 pa u σ n fl tx ln) ++ (mQ cy ma r9 σ n fl tx ln)) H := hP
  have hD : va_D A (([aJ cy out 1 f] ++ fQ cy x a tr s0 s1 pa u σ n fl tx ln) ++ (mQ cy ma r9 σ n fl tx ln)) := hD
  obtain ⟨hP, hD⟩ := sw_PD (L := []) (M := ([aJ cy out 1 f] ++ fQ cy x a tr s0 s1 pa u σ n fl tx ln)) (T := (mQ cy ma r9 σ n fl tx ln)) hP hD
  have hP : va_P g vwCl ((mQ cy ma r9 σ n fl tx ln) ++ ([aJ cy out 1 f] ++ fQ cy x a tr s0 s1 pa u σ n fl tx ln)) H := hP
  have hD : va_D A ((mQ cy ma r9 σ n fl tx ln) ++ ([aJ cy out 1 f] ++ fQ cy x a tr s0 s1 pa u σ n fl tx ln)) := hD
  show W _ _ _ _ _ _ _ _ _ _ _ _ _ _ _ (F0 mX 1226 ls [.int (nI (wat σ)), .int (nI (wat σ))])
  refine lv_icmp_eq (tgt := 1691) hx hb dL_law_1226 (by decide) (fun c_1226 => ?_) (fun c_1226 => ?_)
  · skip
    refine W.widen (k := cells + 1) (n := slots + 6) (by omega) (by omega) ?_
    exact kk u (r9) σ Hh n K fl tx ln f H locs ls (fI_mono hu (by (try split) <;> omega) (by omega)) (mI_mono hr9.2 (by (try split) <;> omega) (by omega)) hP hD hS (lv_sub hl [0, 1, 2, 3, 4] rfl)
  · skip
    exact absurd rfl c_1226
set_option maxHeartbeats 4000000 in
set_option maxRecDepth 100000 in
theorem lw_meant {pX : Program} {l : Launch} {eX : Env} {s : State} {mX : MethodId} {below : List Frame} {meth : Method} {cX : Code} {b L : Nat} {xs : Nat → Int32} {QX : State → Prop} {A : Nat → Prop} (hfl : l.stackTraces = false) (g : va_G) (cy : Nat → ClassId) (hx : pX.tables.exec = Jvm.exec) (hb : cX.code = cL_law) (hml : cX.maxLocals = 7) (hown : s.vm.findClass RL = some mX.cls) (hts : ∀ w ∈ wsL_law, w.before #[Value.ref b] s = true) (hA : ∀ q : Nat, s.heap.size ≤ q → A q) (hK : va_K g vwCl (Ty cy) s) (hX : Cx A s s.heap) (hY : Cy s) (hXs : va_X b L xs s s.heap) (hbl : b < s.heap.size) (hbA : ¬ A b) (hL : L ≤ 3072)
    {x a tr s0 s1 ma : Nat → Nat} {pa : Nat → Nat → Nat} {out i bd cells slots : Nat} {q : Sc} {r : Mc} {σ : Nat → Nat} {Hh : Nat → Nat → Nat} {n : Nat} {K : Nat → Nat → Nat} {fl : Nat → Bool} {tx : Nat → Nat} {ln : Nat} {f : Nat → Int64} {H : Heap} {locs : List Loc} {ls : Array Slot} (hi : i + 6 ≤ L) (hbd1 : 11880 ≤ bd) (hbd2 : bd ≤ 63000) (hc9 : cells ≤ 10000) (hs9 : slots ≤ 100000) (hI : fI bd q σ Hh n K fl tx ln) (hM : mI bd r σ Hh n K fl tx ln) (hP : va_P g vwCl (mQ cy ma r σ n fl tx ln ++ ([aJ cy out 1 f] ++ fQ cy x a tr s0 s1 pa q σ n fl tx ln)) H) (hD : va_D A (mQ cy ma r σ n fl tx ln ++ ([aJ cy out 1 f] ++ fQ cy x a tr s0 s1 pa q σ n fl tx ln))) (hS : va_S A s.heap H locs) (hl : lv_has ls 7 [(0, .ref b), (1, .ref (x 0)), (2, .ref (ma 0)), (3, .ref out), (4, .int (nI i))])
    (kk : ∀ (q : Sc) (r : Mc) (σ : Nat → Nat) (Hh : Nat → Nat → Nat) (n : Nat) (K : Nat → Nat → Nat) (fl : Nat → Bool) (tx : Nat → Nat) (ln : Nat) (f : Nat → Int64) (H : Heap) (locs : List Loc) (ls : Array Slot), fI (bd + 99) q σ Hh n K fl tx ln → mI (bd + 99) r σ Hh n K fl tx ln → va_P g vwCl (mQ cy ma r σ n fl tx ln ++ ([aJ cy out 1 f] ++ fQ cy x a tr s0 s1 pa q σ n fl tx ln)) H → va_D A (mQ cy ma r σ n fl tx ln ++ ([aJ cy out 1 f] ++ fQ cy x a tr s0 s1 pa q σ n fl tx ln)) → va_S A s.heap H locs → lv_has ls 7 [(0, .ref b), (1, .ref (x 0)), (2, .ref (ma 0)), (3, .ref out), (4, .int (nI i))] → W pX l eX room_1 s mX #[Value.ref b] below meth cX H locs (cells + 1) (slots + 6) QX (F0 mX 1691 ls [])) :
    W pX l eX room_1 s mX #[Value.ref b] below meth cX H locs cells slots QX (F0 mX 1231 ls []) := by
  have hl : lv_has ls 7 [(0, .ref b), (1, .ref (x 0)), (2, .ref (ma 0)), (3, .ref out), (4, .int (nI i))] := hl
  refine lv_aload_n hx hb dL_law_1231 rfl (lv_at hl 1 rfl) ?_
  refine lv_aload_n hx hb dL_law_1232 rfl (lv_at hl 0 rfl) ?_
  refine lv_iload hx hb dL_law_1233 (lv_at hl 4 rfl) ?_
  refine lv_iconst (v := (nI 1)) hx hb dL_law_1235 (by decide) ?_
  refine lv_iadd hx hb dL_law_1236 ?_
  refine ti (nI_add i 1) ?_
  refine va_sld hx hb hXs hbl hbA hS (vp_in_nI (n := (i + 1)) (by omega) (by omega)) dL_law_1237 ?_
  refine ti (show xs (nI (i + 1)).toNatClampNeg = xs (i + 1) from by rw [nI_clamp (by omega)]) ?_
  refine lv_aload_n hx hb dL_law_1238 rfl (lv_at hl 3 rfl) ?_
  refine wr_callS (pre := mQ cy ma r σ n fl tx ln) (wc := ([aJ cy out 1 f] ++ fQ cy x a tr s0 s1 pa q σ n fl tx ln)) (vx_runSW (hh := [(0, 9, 12, 13)]) (As := [.ref (x 0), .int (xs (i + 1)), .ref out]) (rest := []) ⟨hx, hb, hml, hown, hts⟩ (c_L_meant l hfl g cy out f x a tr s0 s1 pa H.size bd q σ Hh n K fl tx ln (xs (i + 1)) hI ) (vx_cwSW 3 hts (hl_in wd37_1 wd6_9 wd36_23 wd37_0) rfl rfl rfl (by decide +kernel) ⟨Nat.le_of_ble_eq_true rfl, Nat.le_of_ble_eq_true rfl⟩) (ps2 hK hP hD hS hA hX hY _ nd_suffix at_suffix) rfl rfl hl.1 rfl (lv_room (Nat.le_of_ble_eq_true rfl)) dL_law_1239 ⟨by show _ ≤ 601024; omega, by show _ ≤ 7293033; omega⟩) hP hD hS hA (fun _ => congrArg (fun z => out :: z) fQ_ad) (fun u H locs hu hP hD hS => ?_)
  have hP : va_P g vwCl (mQ cy ma r σ n fl tx ln ++ ([aJ cy out 1 u.1] ++ fQ cy x a tr s0 s1 pa u.2 σ n fl tx ln)) H := hP
  have hD : va_D A (mQ cy ma r σ n fl tx ln ++ ([aJ cy out 1 u.1] ++ fQ cy x a tr s0 s1 pa u.2 σ n fl tx ln)) := hD
  have hrk9 : rkm 0 1 0 (fMea (xs (i + 1))) < 10 := by unfold rkm; (repeat' split) <;> omega
  show W _ _ _ _ _ _ _ _ _ _ _ _ _ _ _ (F0 mX 1242 ls [.int (nI (rkm 0 1 0 (fMea (xs (i + 1)))))])
  refine lv_istore (lv' := [(5, .int (nI (rkm 0 1 0 (fMea (xs (i + 1)))))), (0, .ref b), (1, .ref (x 0)), (2, .ref (ma 0)), (3, .ref out), (4, .int (nI i))]) hx hb dL_law_1242 hl (by decide) rfl (fun ls hl => ?_)
  refine lv_aload_n hx hb dL_law_1244 rfl (lv_at hl 3 rfl) ?_
  refine lv_aload_n hx hb dL_law_1245 rfl (lv_at hl 1 rfl) ?_
  refine lv_iload hx hb dL_law_1246 (lv_at hl 5 rfl) ?_
  refine lv_iconst (v := (nI 1)) hx hb dL_law_1248 (by decide) ?_
  refine lv_iadd hx hb dL_law_1249 ?_
  refine ti (nI_add i 1) ?_
  refine va_sld hx hb hXs hbl hbA hS (vp_in_nI (n := (i + 1)) (by omega) (by omega)) dL_law_1250 ?_
  refine ti (show xs (nI (i + 1)).toNatClampNeg = xs (i + 1) from by rw [nI_clamp (by omega)]) ?_
  obtain ⟨hP, hD⟩ := sw_PD (L := []) (M := mQ cy ma r σ n fl tx ln) (T := ([aJ cy out 1 u.1] ++ fQ cy x a tr s0 s1 pa u.2 σ n fl tx ln)) hP hD
  have hP : va_P g vwCl (([aJ cy out 1 u.1] ++ fQ cy x a tr s0 s1 pa u.2 σ n fl tx ln) ++ mQ cy ma r σ n fl tx ln) H := hP
  have hD : va_D A (([aJ cy out 1 u.1] ++ fQ cy x a tr s0 s1 pa u.2 σ n fl tx ln) ++ mQ cy ma r σ n fl tx ln) := hD
  refine wr_callS (pre := ([aJ cy out 1 u.1] ++ fQ cy x a tr s0 s1 pa u.2 σ n fl tx ln)) (wc := mQ cy ma r σ n fl tx ln) (va_runV (As := [.int (xs (i + 1))]) (rest := []) ⟨hx, hb, hml, hown, hts⟩ (c_X8_meant l g cy ma H.size bd r σ Hh n K fl tx ln (xs (i + 1)) hM ) ⟨cB 1 hts wd37_10 wd1_5 wd37_7 rfl rfl (by decide +kernel) ⟨Nat.le_of_ble_eq_true rfl, Nat.le_of_ble_eq_true rfl⟩, hts _ wd37_8, hts _ wd37_9⟩ (pvS hK hP hD hS hA hX 6 rfl rfl) rfl rfl hl.1 rfl (lv_room (Nat.le_of_ble_eq_true rfl)) dL_law_1251 ⟨by show _ ≤ 601024; omega, by show _ ≤ 7293033; omega⟩) hP hD hS hA (fun _ => mQ_ad) (fun r9 H locs hr9 hP hD hS => ?_)
  have hP : va_P g vwCl (([aJ cy out 1 u.1] ++ fQ cy x a tr s0 s1 pa u.2 σ n fl tx ln) ++ (mQ cy ma r9 σ n fl tx ln)) H := hP
  have hD : va_D A (([aJ cy out 1 u.1] ++ fQ cy x a tr s0 s1 pa u.2 σ n fl tx ln) ++ (mQ cy ma r9 σ n fl tx ln)) := hD
  obtain ⟨hP, hD⟩ := sw_PD (L := []) (M := ([aJ cy out 1 u.1] ++ fQ cy x a tr s0 s1 pa u.2 σ n fl tx ln)) (T := (mQ cy ma r9 σ n fl tx ln)) hP hD
  have hP : va_P g vwCl ((mQ cy ma r9 σ n fl tx ln) ++ ([aJ cy out 1 u.1] ++ fQ cy x a tr s0 s1 pa u.2 σ n fl tx ln)) H := hP
  have hD : va_D A ((mQ cy ma r9 σ n fl tx ln) ++ ([aJ cy out 1 u.1] ++ fQ cy x a tr s0 s1 pa u.2 σ n fl tx ln)) := hD
  show W _ _ _ _ _ _ _ _ _ _ _ _ _ _ _ (F0 mX 1254 ls [.int (nI (if fMea (xs (i + 1)) = 0 then mea σ (xs (i + 1)).toNatClampNeg (σ 2) else 0))])
  refine lv_istore (lv' := [(6, .int (nI (if fMea (xs (i + 1)) = 0 then mea σ (xs (i + 1)).toNatClampNeg (σ 2) else 0))), (5, .int (nI (rkm 0 1 0 (fMea (xs (i + 1)))))), (0, .ref b), (1, .ref (x 0)), (2, .ref (ma 0)), (3, .ref out), (4, .int (nI i))]) hx hb dL_law_1254 hl (by decide) rfl (fun ls hl => ?_)
  refine lv_aload_n hx hb dL_law_1256 rfl (lv_at hl 4 rfl) ?_
  obtain ⟨hP, hD⟩ := sw_PD (L := []) (M := (mQ cy ma r9 σ n fl tx ln)) (T := ([aJ cy out 1 u.1] ++ fQ cy x a tr s0 s1 pa u.2 σ n fl tx ln)) hP hD
  have hP : va_P g vwCl (([aJ cy out 1 u.1] ++ fQ cy x a tr s0 s1 pa u.2 σ n fl tx ln) ++ (mQ cy ma r9 σ n fl tx ln)) H := hP
  have hD : va_D A (([aJ cy out 1 u.1] ++ fQ cy x a tr s0 s1 pa u.2 σ n fl tx ln) ++ (mQ cy ma r9 σ n fl tx ln)) := hD
  refine rd_call (va_runV (As := []) (rest := []) ⟨hx, hb, hml, hown, hts⟩ (c_X8_thrown l g cy H.size ma r9.1 r9.2.1 r9.2.2.1 r9.2.2.2.1 r9.2.2.2.2.1 r9.2.2.2.2.2.1 r9.2.2.2.2.2.2.1 r9.2.2.2.2.2.2.2 σ n fl tx ln) ⟨cB 0 hts wd8_2 wd1_5 wd7_23 rfl rfl (by decide +kernel) ⟨Nat.le_of_ble_eq_true rfl, Nat.le_of_ble_eq_true rfl⟩, hts _ wd8_0, hts _ wd8_1⟩ (pvS (wc := (mQ cy ma r9 σ n fl tx ln)) hK hP hD hS hA hX 6 rfl rfl) rfl rfl hl.1 rfl (lv_room (Nat.le_of_ble_eq_true rfl)) dL_law_1257 ⟨by show _ ≤ 601024; omega, by show _ ≤ 7293033; omega⟩) ?_
  obtain ⟨hP, hD⟩ := sw_PD (L := []) (M := ([aJ cy out 1 u.1] ++ fQ cy x a tr s0 s1 pa u.2 σ n fl tx ln)) (T := (mQ cy ma r9 σ n fl tx ln)) hP hD
  have hP : va_P g vwCl ((mQ cy ma r9 σ n fl tx ln) ++ ([aJ cy out 1 u.1] ++ fQ cy x a tr s0 s1 pa u.2 σ n fl tx ln)) H := hP
  have hD : va_D A ((mQ cy ma r9 σ n fl tx ln) ++ ([aJ cy out 1 u.1] ++ fQ cy x a tr s0 s1 pa u.2 σ n fl tx ln)) := hD
  refine ti (show nI r9.2.2.2.2.2.2.2 = nI (rkm 0 1 0 (fMea (xs (i + 1)))) from congrArg nI hr9.1) ?_
  show W _ _ _ _ _ _ _ _ _ _ _ _ _ _ _ (F0 mX 1260 ls [.int (nI (rkm 0 1 0 (fMea (xs (i + 1)))))])
  refine lv_iload hx hb dL_law_1260 (lv_at hl 1 rfl) ?_
  refine lv_icmp_eq (tgt := 1267) hx hb dL_law_1262 (by decide) (fun c_1262 => ?_) (fun c_1262 => ?_)
  · have c_1262 := (nc_eq9 (by omega) (by omega) c_1262)
    refine lv_iload hx hb dL_law_1267 (lv_at hl 1 rfl) ?_
    refine lv_if_ne (tgt := 1284) hx hb dL_law_1269 (by decide) (fun c_1269 => ?_) (fun c_1269 => ?_)
    · have c_1269 := (nz_ne c_1269 (by omega))
      refine lv_goto (tgt := 1691) hx hb dL_law_1284 (by decide) ?_
      exact kk u.2 (r9) σ Hh n K fl tx ln u.1 H locs ls (fI_mono hu.2 (by (try split) <;> omega) (by omega)) (mI_mono hr9.2 (by (try split) <;> omega) (by omega)) hP hD hS (lv_sub hl [2, 3, 4, 5, 6] rfl)
    · have c_1269 := (nz_eq c_1269 (by omega))
      have c_1269 : rkm 0 1 0 (fMea (xs (i + 1))) = 0 := c_1269
      have hz9 : fMea (xs (i + 1)) = 0 := rkm_z (by unfold fMea rkm; (repeat' split) <;> omega) c_1269
      refine lv_aload_n hx hb dL_law_1272 rfl (lv_at hl 5 rfl) ?_
      refine lv_iconst (v := (nI 0)) hx hb dL_law_1273 (by decide) ?_
      refine va_lald hx hb hK hP 9 3 rfl rfl (vp_in_nI (n := 0) (by omega) (by omega)) dL_law_1274 ?_
      refine tl (show u.1 (nI 0).toNatClampNeg = ((nI (mea σ (xs (i + 1)).toNatClampNeg (σ 2))) : Int32).toInt64 from by rw [nI_clamp (by omega)]; exact hu.1 hz9) ?_
      refine lv_iload hx hb dL_law_1275 (lv_at hl 0 rfl) ?_
      refine ti (show (nI (if fMea (xs (i + 1)) = 0 then mea σ (xs (i + 1)).toNatClampNeg (σ 2) else 0)) = (nI (mea σ (xs (i + 1)).toNatClampNeg (σ 2))) from (by rw [if_pos hz9])) ?_
      refine lv_i2l (v := (nI (mea σ (xs (i + 1)).toNatClampNeg (σ 2))).toInt64) hx hb dL_law_1277 rfl ?_
      refine W.lcmp hx hb dL_law_1278 ?_
      refine lv_if_eq (tgt := 1284) hx hb dL_law_1279 (by decide) (fun c_1279 => ?_) (fun c_1279 => ?_)
      · have c_1279 := lc_eq c_1279
        refine lv_goto (tgt := 1691) hx hb dL_law_1284 (by decide) ?_
        exact kk u.2 (r9) σ Hh n K fl tx ln u.1 H locs ls (fI_mono hu.2 (by (try split) <;> omega) (by omega)) (mI_mono hr9.2 (by (try split) <;> omega) (by omega)) hP hD hS (lv_sub hl [2, 3, 4, 5, 6] rfl)
      · have c_1279 := lc_ne c_1279
        exact absurd rfl c_1279
  · have c_1262 := (nc_ne9 (by omega) (by omega) c_1262)
    exact absurd rfl c_1262
set_option maxHeartbeats 4000000 in
set_option maxRecDepth 100000 in
theorem lw_ifFound {pX : Program} {l : Launch} {eX : Env} {s : State} {mX : MethodId} {below : List Frame} {meth : Method} {cX : Code} {b L : Nat} {xs : Nat → Int32} {QX : State → Prop} {A : Nat → Prop} (hfl : l.stackTraces = false) (g : va_G) (cy : Nat → ClassId) (hx : pX.tables.exec = Jvm.exec) (hb : cX.code = cL_law) (hml : cX.maxLocals = 7) (hown : s.vm.findClass RL = some mX.cls) (hts : ∀ w ∈ wsL_law, w.before #[Value.ref b] s = true) (hA : ∀ q : Nat, s.heap.size ≤ q → A q) (hK : va_K g vwCl (Ty cy) s) (hX : Cx A s s.heap) (hY : Cy s) (hXs : va_X b L xs s s.heap) (hbl : b < s.heap.size) (hbA : ¬ A b) (hL : L ≤ 3072)
    {x a tr s0 s1 ma : Nat → Nat} {pa : Nat → Nat → Nat} {out i bd cells slots : Nat} {q : Sc} {r : Mc} {σ : Nat → Nat} {Hh : Nat → Nat → Nat} {n : Nat} {K : Nat → Nat → Nat} {fl : Nat → Bool} {tx : Nat → Nat} {ln : Nat} {f : Nat → Int64} {H : Heap} {locs : List Loc} {ls : Array Slot} (hi : i + 6 ≤ L) (hbd1 : 11880 ≤ bd) (hbd2 : bd ≤ 63000) (hc9 : cells ≤ 10000) (hs9 : slots ≤ 100000) (hI : fI bd q σ Hh n K fl tx ln) (hM : mI bd r σ Hh n K fl tx ln) (hP : va_P g vwCl (mQ cy ma r σ n fl tx ln ++ ([aJ cy out 1 f] ++ fQ cy x a tr s0 s1 pa q σ n fl tx ln)) H) (hD : va_D A (mQ cy ma r σ n fl tx ln ++ ([aJ cy out 1 f] ++ fQ cy x a tr s0 s1 pa q σ n fl tx ln))) (hS : va_S A s.heap H locs) (hl : lv_has ls 7 [(0, .ref b), (1, .ref (x 0)), (2, .ref (ma 0)), (3, .ref out), (4, .int (nI i))])
    (kk : ∀ (q : Sc) (r : Mc) (σ : Nat → Nat) (Hh : Nat → Nat → Nat) (n : Nat) (K : Nat → Nat → Nat) (fl : Nat → Bool) (tx : Nat → Nat) (ln : Nat) (f : Nat → Int64) (H : Heap) (locs : List Loc) (ls : Array Slot), fI (bd + 99) q σ Hh n K fl tx ln → mI (bd + 99) r σ Hh n K fl tx ln → va_P g vwCl (mQ cy ma r σ n fl tx ln ++ ([aJ cy out 1 f] ++ fQ cy x a tr s0 s1 pa q σ n fl tx ln)) H → va_D A (mQ cy ma r σ n fl tx ln ++ ([aJ cy out 1 f] ++ fQ cy x a tr s0 s1 pa q σ n fl tx ln)) → va_S A s.heap H locs → lv_has ls 7 [(0, .ref b), (1, .ref (x 0)), (2, .ref (ma 0)), (3, .ref out), (4, .int (nI i))] → W pX l eX room_1 s mX #[Value.ref b] below meth cX H locs (cells + 1) (slots + 6) QX (F0 mX 1691 ls [])) :
    W pX l eX room_1 s mX #[Value.ref b] below meth cX H locs cells slots QX (F0 mX 1287 ls []) := by
  have hl : lv_has ls 7 [(0, .ref b), (1, .ref (x 0)), (2, .ref (ma 0)), (3, .ref out), (4, .int (nI i))] := hl
  refine lv_aload_n hx hb dL_law_1287 rfl (lv_at hl 1 rfl) ?_
  refine lv_aload_n hx hb dL_law_1288 rfl (lv_at hl 0 rfl) ?_
  refine lv_iload hx hb dL_law_1289 (lv_at hl 4 rfl) ?_
  refine lv_iconst (v := (nI 1)) hx hb dL_law_1291 (by decide) ?_
  refine lv_iadd hx hb dL_law_1292 ?_
  refine ti (nI_add i 1) ?_
  refine va_sld hx hb hXs hbl hbA hS (vp_in_nI (n := (i + 1)) (by omega) (by omega)) dL_law_1293 ?_
  refine ti (show xs (nI (i + 1)).toNatClampNeg = xs (i + 1) from by rw [nI_clamp (by omega)]) ?_
  refine lv_aload_n hx hb dL_law_1294 rfl (lv_at hl 0 rfl) ?_
  refine lv_iload hx hb dL_law_1295 (lv_at hl 4 rfl) ?_
  refine lv_iconst (v := (nI 2)) hx hb dL_law_1297 (by decide) ?_
  refine lv_iadd hx hb dL_law_1298 ?_
  refine ti (nI_add i 2) ?_
  refine va_sld hx hb hXs hbl hbA hS (vp_in_nI (n := (i + 2)) (by omega) (by omega)) dL_law_1299 ?_
  refine ti (show xs (nI (i + 2)).toNatClampNeg = xs (i + 2) from by rw [nI_clamp (by omega)]) ?_
  refine lv_aload_n hx hb dL_law_1300 rfl (lv_at hl 0 rfl) ?_
  refine lv_iload hx hb dL_law_1301 (lv_at hl 4 rfl) ?_
  refine lv_iconst (v := (nI 3)) hx hb dL_law_1303 (by decide) ?_
  refine lv_iadd hx hb dL_law_1304 ?_
  refine ti (nI_add i 3) ?_
  refine va_sld hx hb hXs hbl hbA hS (vp_in_nI (n := (i + 3)) (by omega) (by omega)) dL_law_1305 ?_
  refine ti (show xs (nI (i + 3)).toNatClampNeg = xs (i + 3) from by rw [nI_clamp (by omega)]) ?_
  refine lv_aload_n hx hb dL_law_1306 rfl (lv_at hl 0 rfl) ?_
  refine lv_iload hx hb dL_law_1307 (lv_at hl 4 rfl) ?_
  refine lv_iconst (v := (nI 4)) hx hb dL_law_1309 (by decide) ?_
  refine lv_iadd hx hb dL_law_1310 ?_
  refine ti (nI_add i 4) ?_
  refine va_sld hx hb hXs hbl hbA hS (vp_in_nI (n := (i + 4)) (by omega) (by omega)) dL_law_1311 ?_
  refine ti (show xs (nI (i + 4)).toNatClampNeg = xs (i + 4) from by rw [nI_clamp (by omega)]) ?_
  refine lv_aload_n hx hb dL_law_1312 rfl (lv_at hl 3 rfl) ?_
  refine wr_callS (pre := mQ cy ma r σ n fl tx ln) (wc := ([aJ cy out 1 f] ++ fQ cy x a tr s0 s1 pa q σ n fl tx ln)) (vx_runSW (hh := [(0, 14, 17, 28), (0, 14, 21, 15)]) (As := [.ref (x 0), .int (xs (i + 1)), .int (xs (i + 2)), .int (xs (i + 3)), .int (xs (i + 4)), .ref out]) (rest := []) ⟨hx, hb, hml, hown, hts⟩ (c_L_ifFound l hfl g cy out f x a tr s0 s1 pa H.size bd q σ Hh n K fl tx ln (xs (i + 1)) (xs (i + 2)) (xs (i + 3)) (xs (i + 4)) hI ) (vx_cwSW 6 hts (hl_in wd37_13 wd6_9 wd37_11 wd37_12) rfl rfl rfl (by decide +kernel) ⟨Nat.le_of_ble_eq_true rfl, Nat.le_of_ble_eq_true rfl⟩) (ps2 hK hP hD hS hA hX hY _ nd_suffix at_suffix) rfl rfl hl.1 rfl (lv_room (Nat.le_of_ble_eq_true rfl)) dL_law_1313 ⟨by show _ ≤ 601024; omega, by show _ ≤ 7293033; omega⟩) hP hD hS hA (fun _ => congrArg (fun z => out :: z) fQ_ad) (fun u H locs hu hP hD hS => ?_)
  have hP : va_P g vwCl (mQ cy ma r σ n fl tx ln ++ ([aJ cy out 1 u.1] ++ fQ cy x a tr s0 s1 pa u.2 σ n fl tx ln)) H := hP
  have hD : va_D A (mQ cy ma r σ n fl tx ln ++ ([aJ cy out 1 u.1] ++ fQ cy x a tr s0 s1 pa u.2 σ n fl tx ln)) := hD
  have hrk9 : rkm 1 0 2 (fIff σ (xs (i + 1)) (xs (i + 2)) (xs (i + 3)) (xs (i + 4))) < 10 := by unfold rkm; (repeat' split) <;> omega
  show W _ _ _ _ _ _ _ _ _ _ _ _ _ _ _ (F0 mX 1316 ls [.int (nI (rkm 1 0 2 (fIff σ (xs (i + 1)) (xs (i + 2)) (xs (i + 3)) (xs (i + 4)))))])
  refine lv_istore (lv' := [(5, .int (nI (rkm 1 0 2 (fIff σ (xs (i + 1)) (xs (i + 2)) (xs (i + 3)) (xs (i + 4)))))), (0, .ref b), (1, .ref (x 0)), (2, .ref (ma 0)), (3, .ref out), (4, .int (nI i))]) hx hb dL_law_1316 hl (by decide) rfl (fun ls hl => ?_)
  refine lv_aload_n hx hb dL_law_1318 rfl (lv_at hl 3 rfl) ?_
  refine lv_aload_n hx hb dL_law_1319 rfl (lv_at hl 1 rfl) ?_
  refine lv_iload hx hb dL_law_1320 (lv_at hl 5 rfl) ?_
  refine lv_iconst (v := (nI 1)) hx hb dL_law_1322 (by decide) ?_
  refine lv_iadd hx hb dL_law_1323 ?_
  refine ti (nI_add i 1) ?_
  refine va_sld hx hb hXs hbl hbA hS (vp_in_nI (n := (i + 1)) (by omega) (by omega)) dL_law_1324 ?_
  refine ti (show xs (nI (i + 1)).toNatClampNeg = xs (i + 1) from by rw [nI_clamp (by omega)]) ?_
  refine lv_aload_n hx hb dL_law_1325 rfl (lv_at hl 1 rfl) ?_
  refine lv_iload hx hb dL_law_1326 (lv_at hl 5 rfl) ?_
  refine lv_iconst (v := (nI 2)) hx hb dL_law_1328 (by decide) ?_
  refine lv_iadd hx hb dL_law_1329 ?_
  refine ti (nI_add i 2) ?_
  refine va_sld hx hb hXs hbl hbA hS (vp_in_nI (n := (i + 2)) (by omega) (by omega)) dL_law_1330 ?_
  refine ti (show xs (nI (i + 2)).toNatClampNeg = xs (i + 2) from by rw [nI_clamp (by omega)]) ?_
  refine lv_aload_n hx hb dL_law_1331 rfl (lv_at hl 1 rfl) ?_
  refine lv_iload hx hb dL_law_1332 (lv_at hl 5 rfl) ?_
  refine lv_iconst (v := (nI 3)) hx hb dL_law_1334 (by decide) ?_
  refine lv_iadd hx hb dL_law_1335 ?_
  refine ti (nI_add i 3) ?_
  refine va_sld hx hb hXs hbl hbA hS (vp_in_nI (n := (i + 3)) (by omega) (by omega)) dL_law_1336 ?_
  refine ti (show xs (nI (i + 3)).toNatClampNeg = xs (i + 3) from by rw [nI_clamp (by omega)]) ?_
  refine lv_aload_n hx hb dL_law_1337 rfl (lv_at hl 1 rfl) ?_
  refine lv_iload hx hb dL_law_1338 (lv_at hl 5 rfl) ?_
  refine lv_iconst (v := (nI 4)) hx hb dL_law_1340 (by decide) ?_
  refine lv_iadd hx hb dL_law_1341 ?_
  refine ti (nI_add i 4) ?_
  refine va_sld hx hb hXs hbl hbA hS (vp_in_nI (n := (i + 4)) (by omega) (by omega)) dL_law_1342 ?_
  refine ti (show xs (nI (i + 4)).toNatClampNeg = xs (i + 4) from by rw [nI_clamp (by omega)]) ?_
  obtain ⟨hP, hD⟩ := sw_PD (L := []) (M := mQ cy ma r σ n fl tx ln) (T := ([aJ cy out 1 u.1] ++ fQ cy x a tr s0 s1 pa u.2 σ n fl tx ln)) hP hD
  have hP : va_P g vwCl (([aJ cy out 1 u.1] ++ fQ cy x a tr s0 s1 pa u.2 σ n fl tx ln) ++ mQ cy ma r σ n fl tx ln) H := hP
  have hD : va_D A (([aJ cy out 1 u.1] ++ fQ cy x a tr s0 s1 pa u.2 σ n fl tx ln) ++ mQ cy ma r σ n fl tx ln) := hD
  refine wr_callS (pre := ([aJ cy out 1 u.1] ++ fQ cy x a tr s0 s1 pa u.2 σ n fl tx ln)) (wc := mQ cy ma r σ n fl tx ln) (va_runV (As := [.int (xs (i + 1)), .int (xs (i + 2)), .int (xs (i + 3)), .int (xs (i + 4))]) (rest := []) ⟨hx, hb, hml, hown, hts⟩ (c_X8_ifFound l g cy ma H.size bd r σ Hh n K fl tx ln (xs (i + 1)) (xs (i + 2)) (xs (i + 3)) (xs (i + 4)) hM ) ⟨cB 4 hts wd38_1 wd1_5 wd37_22 rfl rfl (by decide +kernel) ⟨Nat.le_of_ble_eq_true rfl, Nat.le_of_ble_eq_true rfl⟩, hts _ wd37_23, hts _ wd38_0⟩ (pvS hK hP hD hS hA hX 6 rfl rfl) rfl rfl hl.1 rfl (lv_room (Nat.le_of_ble_eq_true rfl)) dL_law_1343 ⟨by show _ ≤ 601024; omega, by show _ ≤ 7293033; omega⟩) hP hD hS hA (fun _ => mQ_ad) (fun r9 H locs hr9 hP hD hS => ?_)
  have hP : va_P g vwCl (([aJ cy out 1 u.1] ++ fQ cy x a tr s0 s1 pa u.2 σ n fl tx ln) ++ (mQ cy ma r9 σ n fl tx ln)) H := hP
  have hD : va_D A (([aJ cy out 1 u.1] ++ fQ cy x a tr s0 s1 pa u.2 σ n fl tx ln) ++ (mQ cy ma r9 σ n fl tx ln)) := hD
  obtain ⟨hP, hD⟩ := sw_PD (L := []) (M := ([aJ cy out 1 u.1] ++ fQ cy x a tr s0 s1 pa u.2 σ n fl tx ln)) (T := (mQ cy ma r9 σ n fl tx ln)) hP hD
  have hP : va_P g vwCl ((mQ cy ma r9 σ n fl tx ln) ++ ([aJ cy out 1 u.1] ++ fQ cy x a tr s0 s1 pa u.2 σ n fl tx ln)) H := hP
  have hD : va_D A ((mQ cy ma r9 σ n fl tx ln) ++ ([aJ cy out 1 u.1] ++ fQ cy x a tr s0 s1 pa u.2 σ n fl tx ln)) := hD
  show W _ _ _ _ _ _ _ _ _ _ _ _ _ _ _ (F0 mX 1346 ls [.int (nI (if fIff σ (xs (i + 1)) (xs (i + 2)) (xs (i + 3)) (xs (i + 4)) = 0 then shr σ (xs (i + 1)).toNatClampNeg (xs (i + 2)).toNatClampNeg (xs (i + 3)).toNatClampNeg (xs (i + 4)).toNatClampNeg else 0))])
  refine lv_istore (lv' := [(6, .int (nI (if fIff σ (xs (i + 1)) (xs (i + 2)) (xs (i + 3)) (xs (i + 4)) = 0 then shr σ (xs (i + 1)).toNatClampNeg (xs (i + 2)).toNatClampNeg (xs (i + 3)).toNatClampNeg (xs (i + 4)).toNatClampNeg else 0))), (5, .int (nI (rkm 1 0 2 (fIff σ (xs (i + 1)) (xs (i + 2)) (xs (i + 3)) (xs (i + 4)))))), (0, .ref b), (1, .ref (x 0)), (2, .ref (ma 0)), (3, .ref out), (4, .int (nI i))]) hx hb dL_law_1346 hl (by decide) rfl (fun ls hl => ?_)
  refine lv_aload_n hx hb dL_law_1348 rfl (lv_at hl 4 rfl) ?_
  obtain ⟨hP, hD⟩ := sw_PD (L := []) (M := (mQ cy ma r9 σ n fl tx ln)) (T := ([aJ cy out 1 u.1] ++ fQ cy x a tr s0 s1 pa u.2 σ n fl tx ln)) hP hD
  have hP : va_P g vwCl (([aJ cy out 1 u.1] ++ fQ cy x a tr s0 s1 pa u.2 σ n fl tx ln) ++ (mQ cy ma r9 σ n fl tx ln)) H := hP
  have hD : va_D A (([aJ cy out 1 u.1] ++ fQ cy x a tr s0 s1 pa u.2 σ n fl tx ln) ++ (mQ cy ma r9 σ n fl tx ln)) := hD
  refine rd_call (va_runV (As := []) (rest := []) ⟨hx, hb, hml, hown, hts⟩ (c_X8_thrown l g cy H.size ma r9.1 r9.2.1 r9.2.2.1 r9.2.2.2.1 r9.2.2.2.2.1 r9.2.2.2.2.2.1 r9.2.2.2.2.2.2.1 r9.2.2.2.2.2.2.2 σ n fl tx ln) ⟨cB 0 hts wd8_2 wd1_5 wd7_23 rfl rfl (by decide +kernel) ⟨Nat.le_of_ble_eq_true rfl, Nat.le_of_ble_eq_true rfl⟩, hts _ wd8_0, hts _ wd8_1⟩ (pvS (wc := (mQ cy ma r9 σ n fl tx ln)) hK hP hD hS hA hX 6 rfl rfl) rfl rfl hl.1 rfl (lv_room (Nat.le_of_ble_eq_true rfl)) dL_law_1349 ⟨by show _ ≤ 601024; omega, by show _ ≤ 7293033; omega⟩) ?_
  obtain ⟨hP, hD⟩ := sw_PD (L := []) (M := ([aJ cy out 1 u.1] ++ fQ cy x a tr s0 s1 pa u.2 σ n fl tx ln)) (T := (mQ cy ma r9 σ n fl tx ln)) hP hD
  have hP : va_P g vwCl ((mQ cy ma r9 σ n fl tx ln) ++ ([aJ cy out 1 u.1] ++ fQ cy x a tr s0 s1 pa u.2 σ n fl tx ln)) H := hP
  have hD : va_D A ((mQ cy ma r9 σ n fl tx ln) ++ ([aJ cy out 1 u.1] ++ fQ cy x a tr s0 s1 pa u.2 σ n fl tx ln)) := hD
  refine ti (show nI r9.2.2.2.2.2.2.2 = nI (rkm 1 0 2 (fIff σ (xs (i + 1)) (xs (i + 2)) (xs (i + 3)) (xs (i + 4)))) from congrArg nI hr9.1) ?_
  show W _ _ _ _ _ _ _ _ _ _ _ _ _ _ _ (F0 mX 1352 ls [.int (nI (rkm 1 0 2 (fIff σ (xs (i + 1)) (xs (i + 2)) (xs (i + 3)) (xs (i + 4)))))])
  refine lv_iload hx hb dL_law_1352 (lv_at hl 1 rfl) ?_
  refine lv_icmp_eq (tgt := 1359) hx hb dL_law_1354 (by decide) (fun c_1354 => ?_) (fun c_1354 => ?_)
  · have c_1354 := (nc_eq9 (by omega) (by omega) c_1354)
    refine lv_iload hx hb dL_law_1359 (lv_at hl 1 rfl) ?_
    refine lv_if_ne (tgt := 1376) hx hb dL_law_1361 (by decide) (fun c_1361 => ?_) (fun c_1361 => ?_)
    · have c_1361 := (nz_ne c_1361 (by omega))
      refine lv_goto (tgt := 1691) hx hb dL_law_1376 (by decide) ?_
      exact kk u.2 (r9) σ Hh n K fl tx ln u.1 H locs ls (fI_mono hu.2 (by (try split) <;> omega) (by omega)) (mI_mono hr9.2 (by (try split) <;> omega) (by omega)) hP hD hS (lv_sub hl [2, 3, 4, 5, 6] rfl)
    · have c_1361 := (nz_eq c_1361 (by omega))
      have c_1361 : rkm 1 0 2 (fIff σ (xs (i + 1)) (xs (i + 2)) (xs (i + 3)) (xs (i + 4))) = 0 := c_1361
      have hz9 : fIff σ (xs (i + 1)) (xs (i + 2)) (xs (i + 3)) (xs (i + 4)) = 0 := rkm_z (by unfold fIff fFind fAsk rkm; (repeat' split) <;> omega) c_1361
      refine lv_aload_n hx hb dL_law_1364 rfl (lv_at hl 5 rfl) ?_
      refine lv_iconst (v := (nI 0)) hx hb dL_law_1365 (by decide) ?_
      refine va_lald hx hb hK hP 9 3 rfl rfl (vp_in_nI (n := 0) (by omega) (by omega)) dL_law_1366 ?_
      refine tl (show u.1 (nI 0).toNatClampNeg = ((nI (shr σ (xs (i + 1)).toNatClampNeg (xs (i + 2)).toNatClampNeg (xs (i + 3)).toNatClampNeg (xs (i + 4)).toNatClampNeg)) : Int32).toInt64 from by rw [nI_clamp (by omega)]; exact hu.1 hz9) ?_
      refine lv_iload hx hb dL_law_1367 (lv_at hl 0 rfl) ?_
      refine ti (show (nI (if fIff σ (xs (i + 1)) (xs (i + 2)) (xs (i + 3)) (xs (i + 4)) = 0 then shr σ (xs (i + 1)).toNatClampNeg (xs (i + 2)).toNatClampNeg (xs (i + 3)).toNatClampNeg (xs (i + 4)).toNatClampNeg else 0)) = (nI (shr σ (xs (i + 1)).toNatClampNeg (xs (i + 2)).toNatClampNeg (xs (i + 3)).toNatClampNeg (xs (i + 4)).toNatClampNeg)) from (by rw [if_pos hz9])) ?_
      refine lv_i2l (v := (nI (shr σ (xs (i + 1)).toNatClampNeg (xs (i + 2)).toNatClampNeg (xs (i + 3)).toNatClampNeg (xs (i + 4)).toNatClampNeg)).toInt64) hx hb dL_law_1369 rfl ?_
      refine W.lcmp hx hb dL_law_1370 ?_
      refine lv_if_eq (tgt := 1376) hx hb dL_law_1371 (by decide) (fun c_1371 => ?_) (fun c_1371 => ?_)
      · have c_1371 := lc_eq c_1371
        refine lv_goto (tgt := 1691) hx hb dL_law_1376 (by decide) ?_
        exact kk u.2 (r9) σ Hh n K fl tx ln u.1 H locs ls (fI_mono hu.2 (by (try split) <;> omega) (by omega)) (mI_mono hr9.2 (by (try split) <;> omega) (by omega)) hP hD hS (lv_sub hl [2, 3, 4, 5, 6] rfl)
      · have c_1371 := lc_ne c_1371
        exact absurd rfl c_1371
  · have c_1354 := (nc_ne9 (by omega) (by omega) c_1354)
    exact absurd rfl c_1354
set_option maxHeartbeats 4000000 in
set_option maxRecDepth 100000 in
theorem lw_runScript {pX : Program} {l : Launch} {eX : Env} {s : State} {mX : MethodId} {below : List Frame} {meth : Method} {cX : Code} {b L : Nat} {xs : Nat → Int32} {QX : State → Prop} {A : Nat → Prop} (hfl : l.stackTraces = false) (g : va_G) (cy : Nat → ClassId) (hx : pX.tables.exec = Jvm.exec) (hb : cX.code = cL_law) (hml : cX.maxLocals = 7) (hown : s.vm.findClass RL = some mX.cls) (hts : ∀ w ∈ wsL_law, w.before #[Value.ref b] s = true) (hA : ∀ q : Nat, s.heap.size ≤ q → A q) (hK : va_K g vwCl (Ty cy) s) (hX : Cx A s s.heap) (hY : Cy s) (hXs : va_X b L xs s s.heap) (hbl : b < s.heap.size) (hbA : ¬ A b) (hL : L ≤ 3072)
    {x a tr s0 s1 ma : Nat → Nat} {pa : Nat → Nat → Nat} {out i bd cells slots : Nat} {q : Sc} {r : Mc} {σ : Nat → Nat} {Hh : Nat → Nat → Nat} {n : Nat} {K : Nat → Nat → Nat} {fl : Nat → Bool} {tx : Nat → Nat} {ln : Nat} {f : Nat → Int64} {H : Heap} {locs : List Loc} {ls : Array Slot} (hi : i + 6 ≤ L) (hbd1 : 11880 ≤ bd) (hbd2 : bd ≤ 63000) (hc9 : cells ≤ 10000) (hs9 : slots ≤ 100000) (hI : fI bd q σ Hh n K fl tx ln) (hM : mI bd r σ Hh n K fl tx ln) (hP : va_P g vwCl (mQ cy ma r σ n fl tx ln ++ ([aJ cy out 1 f] ++ fQ cy x a tr s0 s1 pa q σ n fl tx ln)) H) (hD : va_D A (mQ cy ma r σ n fl tx ln ++ ([aJ cy out 1 f] ++ fQ cy x a tr s0 s1 pa q σ n fl tx ln))) (hS : va_S A s.heap H locs) (hl : lv_has ls 7 [(0, .ref b), (1, .ref (x 0)), (2, .ref (ma 0)), (3, .ref out), (4, .int (nI i))])
    (kk : ∀ (q : Sc) (r : Mc) (σ : Nat → Nat) (Hh : Nat → Nat → Nat) (n : Nat) (K : Nat → Nat → Nat) (fl : Nat → Bool) (tx : Nat → Nat) (ln : Nat) (f : Nat → Int64) (H : Heap) (locs : List Loc) (ls : Array Slot), fI (bd + 99) q σ Hh n K fl tx ln → mI (bd + 99) r σ Hh n K fl tx ln → va_P g vwCl (mQ cy ma r σ n fl tx ln ++ ([aJ cy out 1 f] ++ fQ cy x a tr s0 s1 pa q σ n fl tx ln)) H → va_D A (mQ cy ma r σ n fl tx ln ++ ([aJ cy out 1 f] ++ fQ cy x a tr s0 s1 pa q σ n fl tx ln)) → va_S A s.heap H locs → lv_has ls 7 [(0, .ref b), (1, .ref (x 0)), (2, .ref (ma 0)), (3, .ref out), (4, .int (nI i))] → W pX l eX room_1 s mX #[Value.ref b] below meth cX H locs (cells + 1) (slots + 6) QX (F0 mX 1691 ls [])) :
    W pX l eX room_1 s mX #[Value.ref b] below meth cX H locs cells slots QX (F0 mX 1379 ls []) := by
  have hl : lv_has ls 7 [(0, .ref b), (1, .ref (x 0)), (2, .ref (ma 0)), (3, .ref out), (4, .int (nI i))] := hl
  refine lv_aload_n hx hb dL_law_1379 rfl (lv_at hl 1 rfl) ?_
  refine lv_aload_n hx hb dL_law_1380 rfl (lv_at hl 0 rfl) ?_
  refine lv_iload hx hb dL_law_1381 (lv_at hl 4 rfl) ?_
  refine lv_iconst (v := (nI 1)) hx hb dL_law_1383 (by decide) ?_
  refine lv_iadd hx hb dL_law_1384 ?_
  refine ti (nI_add i 1) ?_
  refine va_sld hx hb hXs hbl hbA hS (vp_in_nI (n := (i + 1)) (by omega) (by omega)) dL_law_1385 ?_
  refine ti (show xs (nI (i + 1)).toNatClampNeg = xs (i + 1) from by rw [nI_clamp (by omega)]) ?_
  refine lv_aload_n hx hb dL_law_1386 rfl (lv_at hl 0 rfl) ?_
  refine lv_iload hx hb dL_law_1387 (lv_at hl 4 rfl) ?_
  refine lv_iconst (v := (nI 2)) hx hb dL_law_1389 (by decide) ?_
  refine lv_iadd hx hb dL_law_1390 ?_
  refine ti (nI_add i 2) ?_
  refine va_sld hx hb hXs hbl hbA hS (vp_in_nI (n := (i + 2)) (by omega) (by omega)) dL_law_1391 ?_
  refine ti (show xs (nI (i + 2)).toNatClampNeg = xs (i + 2) from by rw [nI_clamp (by omega)]) ?_
  refine lv_i2l (v := (xs (i + 2)).toInt64) hx hb dL_law_1392 rfl ?_
  refine lv_bipush (v := (nI 32)) hx hb dL_law_1393 (by decide) ?_
  refine lv_lshl (v := ((xs (i + 2)).toInt64) <<< ((nI 32).toInt64 &&& 63)) hx hb dL_law_1395 rfl ?_
  refine lv_aload_n hx hb dL_law_1396 rfl (lv_at hl 0 rfl) ?_
  refine lv_iload hx hb dL_law_1397 (lv_at hl 4 rfl) ?_
  refine lv_iconst (v := (nI 3)) hx hb dL_law_1399 (by decide) ?_
  refine lv_iadd hx hb dL_law_1400 ?_
  refine ti (nI_add i 3) ?_
  refine va_sld hx hb hXs hbl hbA hS (vp_in_nI (n := (i + 3)) (by omega) (by omega)) dL_law_1401 ?_
  refine ti (show xs (nI (i + 3)).toNatClampNeg = xs (i + 3) from by rw [nI_clamp (by omega)]) ?_
  refine lv_i2l (v := (xs (i + 3)).toInt64) hx hb dL_law_1402 rfl ?_
  refine lv_ldc2 hx hb hown (hts _ wd1_7) dL_law_1403 ?_
  refine lv_land hx hb dL_law_1406 ?_
  refine lv_lor hx hb dL_law_1407 ?_
  refine lv_aload_n hx hb dL_law_1408 rfl (lv_at hl 3 rfl) ?_
  refine wr_callS (pre := mQ cy ma r σ n fl tx ln) (wc := ([aJ cy out 1 f] ++ fQ cy x a tr s0 s1 pa q σ n fl tx ln)) (vx_runSW (hh := [(0, 11, 14, 13)]) (As := [.ref (x 0), .int (xs (i + 1)), .long ((((xs (i + 2)).toInt64) <<< ((nI 32).toInt64 &&& 63)) ||| (((xs (i + 3)).toInt64) &&& (4294967295 : Int64))), .ref out]) (rest := []) ⟨hx, hb, hml, hown, hts⟩ (c_L_runScript l hfl g cy out f x a tr s0 s1 pa H.size bd q σ Hh n K fl tx ln (xs (i + 1)) ((((xs (i + 2)).toInt64) <<< ((nI 32).toInt64 &&& 63)) ||| (((xs (i + 3)).toInt64) &&& (4294967295 : Int64))) hI (by omega)) (vx_cwSW 4 hts (hl_in wd38_4 wd6_9 wd38_2 wd38_3) rfl rfl rfl (by decide +kernel) ⟨Nat.le_of_ble_eq_true rfl, Nat.le_of_ble_eq_true rfl⟩) (ps2 hK hP hD hS hA hX hY _ nd_suffix at_suffix) rfl rfl hl.1 rfl (lv_room (Nat.le_of_ble_eq_true rfl)) dL_law_1409 ⟨by show _ ≤ 601024; omega, by show _ ≤ 7293033; omega⟩) hP hD hS hA (fun _ => congrArg (fun z => out :: z) fQ_ad) (fun u H locs hu hP hD hS => ?_)
  have hP : va_P g vwCl (mQ cy ma r σ n fl tx ln ++ ([aJ cy out 1 u.1] ++ fQ cy x a tr s0 s1 pa u.2 σ n fl tx ln)) H := hP
  have hD : va_D A (mQ cy ma r σ n fl tx ln ++ ([aJ cy out 1 u.1] ++ fQ cy x a tr s0 s1 pa u.2 σ n fl tx ln)) := hD
  have hrk9 : rkm 0 1 0 (fRun (xs (i + 1)) ((((xs (i + 2)).toInt64) <<< ((nI 32).toInt64 &&& 63)) ||| (((xs (i + 3)).toInt64) &&& (4294967295 : Int64)))) < 10 := by unfold rkm; (repeat' split) <;> omega
  show W _ _ _ _ _ _ _ _ _ _ _ _ _ _ _ (F0 mX 1412 ls [.int (nI (rkm 0 1 0 (fRun (xs (i + 1)) ((((xs (i + 2)).toInt64) <<< ((nI 32).toInt64 &&& 63)) ||| (((xs (i + 3)).toInt64) &&& (4294967295 : Int64))))))])
  refine lv_istore (lv' := [(5, .int (nI (rkm 0 1 0 (fRun (xs (i + 1)) ((((xs (i + 2)).toInt64) <<< ((nI 32).toInt64 &&& 63)) ||| (((xs (i + 3)).toInt64) &&& (4294967295 : Int64))))))), (0, .ref b), (1, .ref (x 0)), (2, .ref (ma 0)), (3, .ref out), (4, .int (nI i))]) hx hb dL_law_1412 hl (by decide) rfl (fun ls hl => ?_)
  refine lv_aload_n hx hb dL_law_1414 rfl (lv_at hl 3 rfl) ?_
  refine lv_aload_n hx hb dL_law_1415 rfl (lv_at hl 1 rfl) ?_
  refine lv_iload hx hb dL_law_1416 (lv_at hl 5 rfl) ?_
  refine lv_iconst (v := (nI 1)) hx hb dL_law_1418 (by decide) ?_
  refine lv_iadd hx hb dL_law_1419 ?_
  refine ti (nI_add i 1) ?_
  refine va_sld hx hb hXs hbl hbA hS (vp_in_nI (n := (i + 1)) (by omega) (by omega)) dL_law_1420 ?_
  refine ti (show xs (nI (i + 1)).toNatClampNeg = xs (i + 1) from by rw [nI_clamp (by omega)]) ?_
  refine lv_aload_n hx hb dL_law_1421 rfl (lv_at hl 1 rfl) ?_
  refine lv_iload hx hb dL_law_1422 (lv_at hl 5 rfl) ?_
  refine lv_iconst (v := (nI 2)) hx hb dL_law_1424 (by decide) ?_
  refine lv_iadd hx hb dL_law_1425 ?_
  refine ti (nI_add i 2) ?_
  refine va_sld hx hb hXs hbl hbA hS (vp_in_nI (n := (i + 2)) (by omega) (by omega)) dL_law_1426 ?_
  refine ti (show xs (nI (i + 2)).toNatClampNeg = xs (i + 2) from by rw [nI_clamp (by omega)]) ?_
  refine lv_i2l (v := (xs (i + 2)).toInt64) hx hb dL_law_1427 rfl ?_
  refine lv_bipush (v := (nI 32)) hx hb dL_law_1428 (by decide) ?_
  refine lv_lshl (v := ((xs (i + 2)).toInt64) <<< ((nI 32).toInt64 &&& 63)) hx hb dL_law_1430 rfl ?_
  refine lv_aload_n hx hb dL_law_1431 rfl (lv_at hl 1 rfl) ?_
  refine lv_iload hx hb dL_law_1432 (lv_at hl 5 rfl) ?_
  refine lv_iconst (v := (nI 3)) hx hb dL_law_1434 (by decide) ?_
  refine lv_iadd hx hb dL_law_1435 ?_
  refine ti (nI_add i 3) ?_
  refine va_sld hx hb hXs hbl hbA hS (vp_in_nI (n := (i + 3)) (by omega) (by omega)) dL_law_1436 ?_
  refine ti (show xs (nI (i + 3)).toNatClampNeg = xs (i + 3) from by rw [nI_clamp (by omega)]) ?_
  refine lv_i2l (v := (xs (i + 3)).toInt64) hx hb dL_law_1437 rfl ?_
  refine lv_ldc2 hx hb hown (hts _ wd1_7) dL_law_1438 ?_
  refine lv_land hx hb dL_law_1441 ?_
  refine lv_lor hx hb dL_law_1442 ?_
  obtain ⟨hP, hD⟩ := sw_PD (L := []) (M := mQ cy ma r σ n fl tx ln) (T := ([aJ cy out 1 u.1] ++ fQ cy x a tr s0 s1 pa u.2 σ n fl tx ln)) hP hD
  have hP : va_P g vwCl (([aJ cy out 1 u.1] ++ fQ cy x a tr s0 s1 pa u.2 σ n fl tx ln) ++ mQ cy ma r σ n fl tx ln) H := hP
  have hD : va_D A (([aJ cy out 1 u.1] ++ fQ cy x a tr s0 s1 pa u.2 σ n fl tx ln) ++ mQ cy ma r σ n fl tx ln) := hD
  refine wr_callS (pre := ([aJ cy out 1 u.1] ++ fQ cy x a tr s0 s1 pa u.2 σ n fl tx ln)) (wc := mQ cy ma r σ n fl tx ln) (va_runV (As := [.int (xs (i + 1)), .long ((((xs (i + 2)).toInt64) <<< ((nI 32).toInt64 &&& 63)) ||| (((xs (i + 3)).toInt64) &&& (4294967295 : Int64)))]) (rest := []) ⟨hx, hb, hml, hown, hts⟩ (c_X8_runScript l g cy ma H.size bd r σ Hh n K fl tx ln (xs (i + 1)) ((((xs (i + 2)).toInt64) <<< ((nI 32).toInt64 &&& 63)) ||| (((xs (i + 3)).toInt64) &&& (4294967295 : Int64))) hM (by omega)) ⟨cB 2 hts wd39_6 wd1_5 wd39_3 rfl rfl (by decide +kernel) ⟨Nat.le_of_ble_eq_true rfl, Nat.le_of_ble_eq_true rfl⟩, hts _ wd39_4, hts _ wd39_5⟩ (pvS hK hP hD hS hA hX 6 rfl rfl) rfl rfl hl.1 rfl (lv_room (Nat.le_of_ble_eq_true rfl)) dL_law_1443 ⟨by show _ ≤ 601024; omega, by show _ ≤ 7293033; omega⟩) hP hD hS hA (fun _ => mQ_ad) (fun r9 H locs hr9 hP hD hS => ?_)
  have hP : va_P g vwCl (([aJ cy out 1 u.1] ++ fQ cy x a tr s0 s1 pa u.2 σ n fl tx ln) ++ (mQ cy ma r9 σ n fl tx ln)) H := hP
  have hD : va_D A (([aJ cy out 1 u.1] ++ fQ cy x a tr s0 s1 pa u.2 σ n fl tx ln) ++ (mQ cy ma r9 σ n fl tx ln)) := hD
  obtain ⟨hP, hD⟩ := sw_PD (L := []) (M := ([aJ cy out 1 u.1] ++ fQ cy x a tr s0 s1 pa u.2 σ n fl tx ln)) (T := (mQ cy ma r9 σ n fl tx ln)) hP hD
  have hP : va_P g vwCl ((mQ cy ma r9 σ n fl tx ln) ++ ([aJ cy out 1 u.1] ++ fQ cy x a tr s0 s1 pa u.2 σ n fl tx ln)) H := hP
  have hD : va_D A ((mQ cy ma r9 σ n fl tx ln) ++ ([aJ cy out 1 u.1] ++ fQ cy x a tr s0 s1 pa u.2 σ n fl tx ln)) := hD
  show W _ _ _ _ _ _ _ _ _ _ _ _ _ _ _ (F0 mX 1446 ls [.int (nI (if fRun (xs (i + 1)) ((((xs (i + 2)).toInt64) <<< ((nI 32).toInt64 &&& 63)) ||| (((xs (i + 3)).toInt64) &&& (4294967295 : Int64))) = 0 then rnI ((((xs (i + 2)).toInt64) <<< ((nI 32).toInt64 &&& 63)) ||| (((xs (i + 3)).toInt64) &&& (4294967295 : Int64))) (xs (i + 1)).toNatClampNeg (xs (i + 1)).toNatClampNeg σ else 0))])
  refine lv_istore (lv' := [(6, .int (nI (if fRun (xs (i + 1)) ((((xs (i + 2)).toInt64) <<< ((nI 32).toInt64 &&& 63)) ||| (((xs (i + 3)).toInt64) &&& (4294967295 : Int64))) = 0 then rnI ((((xs (i + 2)).toInt64) <<< ((nI 32).toInt64 &&& 63)) ||| (((xs (i + 3)).toInt64) &&& (4294967295 : Int64))) (xs (i + 1)).toNatClampNeg (xs (i + 1)).toNatClampNeg σ else 0))), (5, .int (nI (rkm 0 1 0 (fRun (xs (i + 1)) ((((xs (i + 2)).toInt64) <<< ((nI 32).toInt64 &&& 63)) ||| (((xs (i + 3)).toInt64) &&& (4294967295 : Int64))))))), (0, .ref b), (1, .ref (x 0)), (2, .ref (ma 0)), (3, .ref out), (4, .int (nI i))]) hx hb dL_law_1446 hl (by decide) rfl (fun ls hl => ?_)
  refine lv_aload_n hx hb dL_law_1448 rfl (lv_at hl 4 rfl) ?_
  obtain ⟨hP, hD⟩ := sw_PD (L := []) (M := (mQ cy ma r9 σ n fl tx ln)) (T := ([aJ cy out 1 u.1] ++ fQ cy x a tr s0 s1 pa u.2 σ n fl tx ln)) hP hD
  have hP : va_P g vwCl (([aJ cy out 1 u.1] ++ fQ cy x a tr s0 s1 pa u.2 σ n fl tx ln) ++ (mQ cy ma r9 σ n fl tx ln)) H := hP
  have hD : va_D A (([aJ cy out 1 u.1] ++ fQ cy x a tr s0 s1 pa u.2 σ n fl tx ln) ++ (mQ cy ma r9 σ n fl tx ln)) := hD
  refine rd_call (va_runV (As := []) (rest := []) ⟨hx, hb, hml, hown, hts⟩ (c_X8_thrown l g cy H.size ma r9.1 r9.2.1 r9.2.2.1 r9.2.2.2.1 r9.2.2.2.2.1 r9.2.2.2.2.2.1 r9.2.2.2.2.2.2.1 r9.2.2.2.2.2.2.2 σ n fl tx ln) ⟨cB 0 hts wd8_2 wd1_5 wd7_23 rfl rfl (by decide +kernel) ⟨Nat.le_of_ble_eq_true rfl, Nat.le_of_ble_eq_true rfl⟩, hts _ wd8_0, hts _ wd8_1⟩ (pvS (wc := (mQ cy ma r9 σ n fl tx ln)) hK hP hD hS hA hX 6 rfl rfl) rfl rfl hl.1 rfl (lv_room (Nat.le_of_ble_eq_true rfl)) dL_law_1449 ⟨by show _ ≤ 601024; omega, by show _ ≤ 7293033; omega⟩) ?_
  obtain ⟨hP, hD⟩ := sw_PD (L := []) (M := ([aJ cy out 1 u.1] ++ fQ cy x a tr s0 s1 pa u.2 σ n fl tx ln)) (T := (mQ cy ma r9 σ n fl tx ln)) hP hD
  have hP : va_P g vwCl ((mQ cy ma r9 σ n fl tx ln) ++ ([aJ cy out 1 u.1] ++ fQ cy x a tr s0 s1 pa u.2 σ n fl tx ln)) H := hP
  have hD : va_D A ((mQ cy ma r9 σ n fl tx ln) ++ ([aJ cy out 1 u.1] ++ fQ cy x a tr s0 s1 pa u.2 σ n fl tx ln)) := hD
  refine ti (show nI r9.2.2.2.2.2.2.2 = nI (rkm 0 1 0 (fRun (xs (i + 1)) ((((xs (i + 2)).toInt64) <<< ((nI 32).toInt64 &&& 63)) ||| (((xs (i + 3)).toInt64) &&& (4294967295 : Int64))))) from congrArg nI hr9.1) ?_
  show W _ _ _ _ _ _ _ _ _ _ _ _ _ _ _ (F0 mX 1452 ls [.int (nI (rkm 0 1 0 (fRun (xs (i + 1)) ((((xs (i + 2)).toInt64) <<< ((nI 32).toInt64 &&& 63)) ||| (((xs (i + 3)).toInt64) &&& (4294967295 : Int64))))))])
  refine lv_iload hx hb dL_law_1452 (lv_at hl 1 rfl) ?_
  refine lv_icmp_eq (tgt := 1459) hx hb dL_law_1454 (by decide) (fun c_1454 => ?_) (fun c_1454 => ?_)
  · have c_1454 := (nc_eq9 (by omega) (by omega) c_1454)
    refine lv_iload hx hb dL_law_1459 (lv_at hl 1 rfl) ?_
    refine lv_if_ne (tgt := 1476) hx hb dL_law_1461 (by decide) (fun c_1461 => ?_) (fun c_1461 => ?_)
    · have c_1461 := (nz_ne c_1461 (by omega))
      refine lv_goto (tgt := 1691) hx hb dL_law_1476 (by decide) ?_
      exact kk u.2 (r9) σ Hh n K fl tx ln u.1 H locs ls (fI_mono hu.2 (by (try split) <;> omega) (by omega)) (mI_mono hr9.2 (by (try split) <;> omega) (by omega)) hP hD hS (lv_sub hl [2, 3, 4, 5, 6] rfl)
    · have c_1461 := (nz_eq c_1461 (by omega))
      have c_1461 : rkm 0 1 0 (fRun (xs (i + 1)) ((((xs (i + 2)).toInt64) <<< ((nI 32).toInt64 &&& 63)) ||| (((xs (i + 3)).toInt64) &&& (4294967295 : Int64)))) = 0 := c_1461
      have hz9 : fRun (xs (i + 1)) ((((xs (i + 2)).toInt64) <<< ((nI 32).toInt64 &&& 63)) ||| (((xs (i + 3)).toInt64) &&& (4294967295 : Int64))) = 0 := rkm_z (by unfold fRun rkm; (repeat' split) <;> omega) c_1461
      refine lv_aload_n hx hb dL_law_1464 rfl (lv_at hl 5 rfl) ?_
      refine lv_iconst (v := (nI 0)) hx hb dL_law_1465 (by decide) ?_
      refine va_lald hx hb hK hP 9 3 rfl rfl (vp_in_nI (n := 0) (by omega) (by omega)) dL_law_1466 ?_
      refine tl (show u.1 (nI 0).toNatClampNeg = ((nI (rnI ((((xs (i + 2)).toInt64) <<< ((nI 32).toInt64 &&& 63)) ||| (((xs (i + 3)).toInt64) &&& (4294967295 : Int64))) (xs (i + 1)).toNatClampNeg (xs (i + 1)).toNatClampNeg σ)) : Int32).toInt64 from by rw [nI_clamp (by omega)]; exact hu.1 hz9) ?_
      refine lv_iload hx hb dL_law_1467 (lv_at hl 0 rfl) ?_
      refine ti (show (nI (if fRun (xs (i + 1)) ((((xs (i + 2)).toInt64) <<< ((nI 32).toInt64 &&& 63)) ||| (((xs (i + 3)).toInt64) &&& (4294967295 : Int64))) = 0 then rnI ((((xs (i + 2)).toInt64) <<< ((nI 32).toInt64 &&& 63)) ||| (((xs (i + 3)).toInt64) &&& (4294967295 : Int64))) (xs (i + 1)).toNatClampNeg (xs (i + 1)).toNatClampNeg σ else 0)) = (nI (rnI ((((xs (i + 2)).toInt64) <<< ((nI 32).toInt64 &&& 63)) ||| (((xs (i + 3)).toInt64) &&& (4294967295 : Int64))) (xs (i + 1)).toNatClampNeg (xs (i + 1)).toNatClampNeg σ)) from (by rw [if_pos hz9])) ?_
      refine lv_i2l (v := (nI (rnI ((((xs (i + 2)).toInt64) <<< ((nI 32).toInt64 &&& 63)) ||| (((xs (i + 3)).toInt64) &&& (4294967295 : Int64))) (xs (i + 1)).toNatClampNeg (xs (i + 1)).toNatClampNeg σ)).toInt64) hx hb dL_law_1469 rfl ?_
      refine W.lcmp hx hb dL_law_1470 ?_
      refine lv_if_eq (tgt := 1476) hx hb dL_law_1471 (by decide) (fun c_1471 => ?_) (fun c_1471 => ?_)
      · have c_1471 := lc_eq c_1471
        refine lv_goto (tgt := 1691) hx hb dL_law_1476 (by decide) ?_
        exact kk u.2 (r9) σ Hh n K fl tx ln u.1 H locs ls (fI_mono hu.2 (by (try split) <;> omega) (by omega)) (mI_mono hr9.2 (by (try split) <;> omega) (by omega)) hP hD hS (lv_sub hl [2, 3, 4, 5, 6] rfl)
      · have c_1471 := lc_ne c_1471
        exact absurd rfl c_1471
  · have c_1454 := (nc_ne9 (by omega) (by omega) c_1454)
    exact absurd rfl c_1454
set_option maxHeartbeats 4000000 in
set_option maxRecDepth 100000 in
theorem lw_simulate {pX : Program} {l : Launch} {eX : Env} {s : State} {mX : MethodId} {below : List Frame} {meth : Method} {cX : Code} {b L : Nat} {xs : Nat → Int32} {QX : State → Prop} {A : Nat → Prop} (hfl : l.stackTraces = false) (g : va_G) (cy : Nat → ClassId) (hx : pX.tables.exec = Jvm.exec) (hb : cX.code = cL_law) (hml : cX.maxLocals = 7) (hown : s.vm.findClass RL = some mX.cls) (hts : ∀ w ∈ wsL_law, w.before #[Value.ref b] s = true) (hA : ∀ q : Nat, s.heap.size ≤ q → A q) (hK : va_K g vwCl (Ty cy) s) (hX : Cx A s s.heap) (hY : Cy s) (hXs : va_X b L xs s s.heap) (hbl : b < s.heap.size) (hbA : ¬ A b) (hL : L ≤ 3072)
    {x a tr s0 s1 ma : Nat → Nat} {pa : Nat → Nat → Nat} {out i bd cells slots : Nat} {q : Sc} {r : Mc} {σ : Nat → Nat} {Hh : Nat → Nat → Nat} {n : Nat} {K : Nat → Nat → Nat} {fl : Nat → Bool} {tx : Nat → Nat} {ln : Nat} {f : Nat → Int64} {H : Heap} {locs : List Loc} {ls : Array Slot} (hi : i + 6 ≤ L) (hbd1 : 11880 ≤ bd) (hbd2 : bd ≤ 63000) (hc9 : cells ≤ 10000) (hs9 : slots ≤ 100000) (hI : fI bd q σ Hh n K fl tx ln) (hM : mI bd r σ Hh n K fl tx ln) (hP : va_P g vwCl (mQ cy ma r σ n fl tx ln ++ ([aJ cy out 1 f] ++ fQ cy x a tr s0 s1 pa q σ n fl tx ln)) H) (hD : va_D A (mQ cy ma r σ n fl tx ln ++ ([aJ cy out 1 f] ++ fQ cy x a tr s0 s1 pa q σ n fl tx ln))) (hS : va_S A s.heap H locs) (hl : lv_has ls 7 [(0, .ref b), (1, .ref (x 0)), (2, .ref (ma 0)), (3, .ref out), (4, .int (nI i))])
    (kk : ∀ (q : Sc) (r : Mc) (σ : Nat → Nat) (Hh : Nat → Nat → Nat) (n : Nat) (K : Nat → Nat → Nat) (fl : Nat → Bool) (tx : Nat → Nat) (ln : Nat) (f : Nat → Int64) (H : Heap) (locs : List Loc) (ls : Array Slot), fI (bd + 99) q σ Hh n K fl tx ln → mI (bd + 99) r σ Hh n K fl tx ln → va_P g vwCl (mQ cy ma r σ n fl tx ln ++ ([aJ cy out 1 f] ++ fQ cy x a tr s0 s1 pa q σ n fl tx ln)) H → va_D A (mQ cy ma r σ n fl tx ln ++ ([aJ cy out 1 f] ++ fQ cy x a tr s0 s1 pa q σ n fl tx ln)) → va_S A s.heap H locs → lv_has ls 7 [(0, .ref b), (1, .ref (x 0)), (2, .ref (ma 0)), (3, .ref out), (4, .int (nI i))] → W pX l eX room_1 s mX #[Value.ref b] below meth cX H locs (cells + 1) (slots + 6) QX (F0 mX 1691 ls [])) :
    W pX l eX room_1 s mX #[Value.ref b] below meth cX H locs cells slots QX (F0 mX 1479 ls []) := by
  have hl : lv_has ls 7 [(0, .ref b), (1, .ref (x 0)), (2, .ref (ma 0)), (3, .ref out), (4, .int (nI i))] := hl
  refine lv_aload_n hx hb dL_law_1479 rfl (lv_at hl 1 rfl) ?_
  refine lv_aload_n hx hb dL_law_1480 rfl (lv_at hl 0 rfl) ?_
  refine lv_iload hx hb dL_law_1481 (lv_at hl 4 rfl) ?_
  refine lv_iconst (v := (nI 1)) hx hb dL_law_1483 (by decide) ?_
  refine lv_iadd hx hb dL_law_1484 ?_
  refine ti (nI_add i 1) ?_
  refine va_sld hx hb hXs hbl hbA hS (vp_in_nI (n := (i + 1)) (by omega) (by omega)) dL_law_1485 ?_
  refine ti (show xs (nI (i + 1)).toNatClampNeg = xs (i + 1) from by rw [nI_clamp (by omega)]) ?_
  refine lv_i2l (v := (xs (i + 1)).toInt64) hx hb dL_law_1486 rfl ?_
  refine lv_bipush (v := (nI 32)) hx hb dL_law_1487 (by decide) ?_
  refine lv_lshl (v := ((xs (i + 1)).toInt64) <<< ((nI 32).toInt64 &&& 63)) hx hb dL_law_1489 rfl ?_
  refine lv_aload_n hx hb dL_law_1490 rfl (lv_at hl 0 rfl) ?_
  refine lv_iload hx hb dL_law_1491 (lv_at hl 4 rfl) ?_
  refine lv_iconst (v := (nI 2)) hx hb dL_law_1493 (by decide) ?_
  refine lv_iadd hx hb dL_law_1494 ?_
  refine ti (nI_add i 2) ?_
  refine va_sld hx hb hXs hbl hbA hS (vp_in_nI (n := (i + 2)) (by omega) (by omega)) dL_law_1495 ?_
  refine ti (show xs (nI (i + 2)).toNatClampNeg = xs (i + 2) from by rw [nI_clamp (by omega)]) ?_
  refine lv_i2l (v := (xs (i + 2)).toInt64) hx hb dL_law_1496 rfl ?_
  refine lv_ldc2 hx hb hown (hts _ wd1_7) dL_law_1497 ?_
  refine lv_land hx hb dL_law_1500 ?_
  refine lv_lor hx hb dL_law_1501 ?_
  refine lv_aload_n hx hb dL_law_1502 rfl (lv_at hl 0 rfl) ?_
  refine lv_iload hx hb dL_law_1503 (lv_at hl 4 rfl) ?_
  refine lv_iconst (v := (nI 3)) hx hb dL_law_1505 (by decide) ?_
  refine lv_iadd hx hb dL_law_1506 ?_
  refine ti (nI_add i 3) ?_
  refine va_sld hx hb hXs hbl hbA hS (vp_in_nI (n := (i + 3)) (by omega) (by omega)) dL_law_1507 ?_
  refine ti (show xs (nI (i + 3)).toNatClampNeg = xs (i + 3) from by rw [nI_clamp (by omega)]) ?_
  refine lv_aload_n hx hb dL_law_1508 rfl (lv_at hl 3 rfl) ?_
  refine wr_callS (pre := mQ cy ma r σ n fl tx ln) (wc := ([aJ cy out 1 f] ++ fQ cy x a tr s0 s1 pa q σ n fl tx ln)) (vx_runSW (hh := [(0, 11, 14, 13)]) (As := [.ref (x 0), .long ((((xs (i + 1)).toInt64) <<< ((nI 32).toInt64 &&& 63)) ||| (((xs (i + 2)).toInt64) &&& (4294967295 : Int64))), .int (xs (i + 3)), .ref out]) (rest := []) ⟨hx, hb, hml, hown, hts⟩ (c_L_simulate l hfl g cy out f x a tr s0 s1 pa H.size bd q σ Hh n K fl tx ln ((((xs (i + 1)).toInt64) <<< ((nI 32).toInt64 &&& 63)) ||| (((xs (i + 2)).toInt64) &&& (4294967295 : Int64))) (xs (i + 3)) hI (by omega)) (vx_cwSW 4 hts (hl_in wd39_23 wd6_9 wd39_21 wd39_22) rfl rfl rfl (by decide +kernel) ⟨Nat.le_of_ble_eq_true rfl, Nat.le_of_ble_eq_true rfl⟩) (ps2 hK hP hD hS hA hX hY _ nd_suffix at_suffix) rfl rfl hl.1 rfl (lv_room (Nat.le_of_ble_eq_true rfl)) dL_law_1509 ⟨by show _ ≤ 601024; omega, by show _ ≤ 7293033; omega⟩) hP hD hS hA (fun _ => congrArg (fun z => out :: z) fQ_ad) (fun u H locs hu hP hD hS => ?_)
  have hP : va_P g vwCl (mQ cy ma r σ n fl tx ln ++ ([aJ cy out 1 u.1] ++ fQ cy x a tr s0 s1 pa u.2 σ n fl tx ln)) H := hP
  have hD : va_D A (mQ cy ma r σ n fl tx ln ++ ([aJ cy out 1 u.1] ++ fQ cy x a tr s0 s1 pa u.2 σ n fl tx ln)) := hD
  have hrk9 : rkm 0 1 0 (fSim (xs (i + 3))) < 10 := by unfold rkm; (repeat' split) <;> omega
  show W _ _ _ _ _ _ _ _ _ _ _ _ _ _ _ (F0 mX 1512 ls [.int (nI (rkm 0 1 0 (fSim (xs (i + 3)))))])
  refine lv_istore (lv' := [(5, .int (nI (rkm 0 1 0 (fSim (xs (i + 3)))))), (0, .ref b), (1, .ref (x 0)), (2, .ref (ma 0)), (3, .ref out), (4, .int (nI i))]) hx hb dL_law_1512 hl (by decide) rfl (fun ls hl => ?_)
  refine lv_aload_n hx hb dL_law_1514 rfl (lv_at hl 3 rfl) ?_
  refine lv_aload_n hx hb dL_law_1515 rfl (lv_at hl 1 rfl) ?_
  refine lv_iload hx hb dL_law_1516 (lv_at hl 5 rfl) ?_
  refine lv_iconst (v := (nI 1)) hx hb dL_law_1518 (by decide) ?_
  refine lv_iadd hx hb dL_law_1519 ?_
  refine ti (nI_add i 1) ?_
  refine va_sld hx hb hXs hbl hbA hS (vp_in_nI (n := (i + 1)) (by omega) (by omega)) dL_law_1520 ?_
  refine ti (show xs (nI (i + 1)).toNatClampNeg = xs (i + 1) from by rw [nI_clamp (by omega)]) ?_
  refine lv_i2l (v := (xs (i + 1)).toInt64) hx hb dL_law_1521 rfl ?_
  refine lv_bipush (v := (nI 32)) hx hb dL_law_1522 (by decide) ?_
  refine lv_lshl (v := ((xs (i + 1)).toInt64) <<< ((nI 32).toInt64 &&& 63)) hx hb dL_law_1524 rfl ?_
  refine lv_aload_n hx hb dL_law_1525 rfl (lv_at hl 1 rfl) ?_
  refine lv_iload hx hb dL_law_1526 (lv_at hl 5 rfl) ?_
  refine lv_iconst (v := (nI 2)) hx hb dL_law_1528 (by decide) ?_
  refine lv_iadd hx hb dL_law_1529 ?_
  refine ti (nI_add i 2) ?_
  refine va_sld hx hb hXs hbl hbA hS (vp_in_nI (n := (i + 2)) (by omega) (by omega)) dL_law_1530 ?_
  refine ti (show xs (nI (i + 2)).toNatClampNeg = xs (i + 2) from by rw [nI_clamp (by omega)]) ?_
  refine lv_i2l (v := (xs (i + 2)).toInt64) hx hb dL_law_1531 rfl ?_
  refine lv_ldc2 hx hb hown (hts _ wd1_7) dL_law_1532 ?_
  refine lv_land hx hb dL_law_1535 ?_
  refine lv_lor hx hb dL_law_1536 ?_
  refine lv_aload_n hx hb dL_law_1537 rfl (lv_at hl 1 rfl) ?_
  refine lv_iload hx hb dL_law_1538 (lv_at hl 5 rfl) ?_
  refine lv_iconst (v := (nI 3)) hx hb dL_law_1540 (by decide) ?_
  refine lv_iadd hx hb dL_law_1541 ?_
  refine ti (nI_add i 3) ?_
  refine va_sld hx hb hXs hbl hbA hS (vp_in_nI (n := (i + 3)) (by omega) (by omega)) dL_law_1542 ?_
  refine ti (show xs (nI (i + 3)).toNatClampNeg = xs (i + 3) from by rw [nI_clamp (by omega)]) ?_
  obtain ⟨hP, hD⟩ := sw_PD (L := []) (M := mQ cy ma r σ n fl tx ln) (T := ([aJ cy out 1 u.1] ++ fQ cy x a tr s0 s1 pa u.2 σ n fl tx ln)) hP hD
  have hP : va_P g vwCl (([aJ cy out 1 u.1] ++ fQ cy x a tr s0 s1 pa u.2 σ n fl tx ln) ++ mQ cy ma r σ n fl tx ln) H := hP
  have hD : va_D A (([aJ cy out 1 u.1] ++ fQ cy x a tr s0 s1 pa u.2 σ n fl tx ln) ++ mQ cy ma r σ n fl tx ln) := hD
  refine wr_callS (pre := ([aJ cy out 1 u.1] ++ fQ cy x a tr s0 s1 pa u.2 σ n fl tx ln)) (wc := mQ cy ma r σ n fl tx ln) (va_runV (As := [.long ((((xs (i + 1)).toInt64) <<< ((nI 32).toInt64 &&& 63)) ||| (((xs (i + 2)).toInt64) &&& (4294967295 : Int64))), .int (xs (i + 3))]) (rest := []) ⟨hx, hb, hml, hown, hts⟩ (c_X8_simulate l g cy ma H.size bd r σ Hh n K fl tx ln (xs (i + 3)) ((((xs (i + 1)).toInt64) <<< ((nI 32).toInt64 &&& 63)) ||| (((xs (i + 2)).toInt64) &&& (4294967295 : Int64))) hM (by omega)) ⟨cB 2 hts wd40_22 wd1_5 wd40_19 rfl rfl (by decide +kernel) ⟨Nat.le_of_ble_eq_true rfl, Nat.le_of_ble_eq_true rfl⟩, hts _ wd40_20, hts _ wd40_21⟩ (pvS hK hP hD hS hA hX 6 rfl rfl) rfl rfl hl.1 rfl (lv_room (Nat.le_of_ble_eq_true rfl)) dL_law_1543 ⟨by show _ ≤ 601024; omega, by show _ ≤ 7293033; omega⟩) hP hD hS hA (fun _ => mQ_ad) (fun r9 H locs hr9 hP hD hS => ?_)
  have hP : va_P g vwCl (([aJ cy out 1 u.1] ++ fQ cy x a tr s0 s1 pa u.2 σ n fl tx ln) ++ (mQ cy ma r9 σ n fl tx ln)) H := hP
  have hD : va_D A (([aJ cy out 1 u.1] ++ fQ cy x a tr s0 s1 pa u.2 σ n fl tx ln) ++ (mQ cy ma r9 σ n fl tx ln)) := hD
  obtain ⟨hP, hD⟩ := sw_PD (L := []) (M := ([aJ cy out 1 u.1] ++ fQ cy x a tr s0 s1 pa u.2 σ n fl tx ln)) (T := (mQ cy ma r9 σ n fl tx ln)) hP hD
  have hP : va_P g vwCl ((mQ cy ma r9 σ n fl tx ln) ++ ([aJ cy out 1 u.1] ++ fQ cy x a tr s0 s1 pa u.2 σ n fl tx ln)) H := hP
  have hD : va_D A ((mQ cy ma r9 σ n fl tx ln) ++ ([aJ cy out 1 u.1] ++ fQ cy x a tr s0 s1 pa u.2 σ n fl tx ln)) := hD
  show W _ _ _ _ _ _ _ _ _ _ _ _ _ _ _ (F0 mX 1546 ls [.int (if fSim (xs (i + 3)) = 0 then simA σ (siS ((((xs (i + 1)).toInt64) <<< ((nI 32).toInt64 &&& 63)) ||| (((xs (i + 2)).toInt64) &&& (4294967295 : Int64))) σ (xs (i + 3)).toNatClampNeg) else 0)])
  refine lv_istore (lv' := [(6, .int (if fSim (xs (i + 3)) = 0 then simA σ (siS ((((xs (i + 1)).toInt64) <<< ((nI 32).toInt64 &&& 63)) ||| (((xs (i + 2)).toInt64) &&& (4294967295 : Int64))) σ (xs (i + 3)).toNatClampNeg) else 0)), (5, .int (nI (rkm 0 1 0 (fSim (xs (i + 3)))))), (0, .ref b), (1, .ref (x 0)), (2, .ref (ma 0)), (3, .ref out), (4, .int (nI i))]) hx hb dL_law_1546 hl (by decide) rfl (fun ls hl => ?_)
  refine lv_aload_n hx hb dL_law_1548 rfl (lv_at hl 4 rfl) ?_
  obtain ⟨hP, hD⟩ := sw_PD (L := []) (M := (mQ cy ma r9 σ n fl tx ln)) (T := ([aJ cy out 1 u.1] ++ fQ cy x a tr s0 s1 pa u.2 σ n fl tx ln)) hP hD
  have hP : va_P g vwCl (([aJ cy out 1 u.1] ++ fQ cy x a tr s0 s1 pa u.2 σ n fl tx ln) ++ (mQ cy ma r9 σ n fl tx ln)) H := hP
  have hD : va_D A (([aJ cy out 1 u.1] ++ fQ cy x a tr s0 s1 pa u.2 σ n fl tx ln) ++ (mQ cy ma r9 σ n fl tx ln)) := hD
  refine rd_call (va_runV (As := []) (rest := []) ⟨hx, hb, hml, hown, hts⟩ (c_X8_thrown l g cy H.size ma r9.1 r9.2.1 r9.2.2.1 r9.2.2.2.1 r9.2.2.2.2.1 r9.2.2.2.2.2.1 r9.2.2.2.2.2.2.1 r9.2.2.2.2.2.2.2 σ n fl tx ln) ⟨cB 0 hts wd8_2 wd1_5 wd7_23 rfl rfl (by decide +kernel) ⟨Nat.le_of_ble_eq_true rfl, Nat.le_of_ble_eq_true rfl⟩, hts _ wd8_0, hts _ wd8_1⟩ (pvS (wc := (mQ cy ma r9 σ n fl tx ln)) hK hP hD hS hA hX 6 rfl rfl) rfl rfl hl.1 rfl (lv_room (Nat.le_of_ble_eq_true rfl)) dL_law_1549 ⟨by show _ ≤ 601024; omega, by show _ ≤ 7293033; omega⟩) ?_
  obtain ⟨hP, hD⟩ := sw_PD (L := []) (M := ([aJ cy out 1 u.1] ++ fQ cy x a tr s0 s1 pa u.2 σ n fl tx ln)) (T := (mQ cy ma r9 σ n fl tx ln)) hP hD
  have hP : va_P g vwCl ((mQ cy ma r9 σ n fl tx ln) ++ ([aJ cy out 1 u.1] ++ fQ cy x a tr s0 s1 pa u.2 σ n fl tx ln)) H := hP
  have hD : va_D A ((mQ cy ma r9 σ n fl tx ln) ++ ([aJ cy out 1 u.1] ++ fQ cy x a tr s0 s1 pa u.2 σ n fl tx ln)) := hD
  refine ti (show nI r9.2.2.2.2.2.2.2 = nI (rkm 0 1 0 (fSim (xs (i + 3)))) from congrArg nI hr9.1) ?_
  show W _ _ _ _ _ _ _ _ _ _ _ _ _ _ _ (F0 mX 1552 ls [.int (nI (rkm 0 1 0 (fSim (xs (i + 3)))))])
  refine lv_iload hx hb dL_law_1552 (lv_at hl 1 rfl) ?_
  refine lv_icmp_eq (tgt := 1559) hx hb dL_law_1554 (by decide) (fun c_1554 => ?_) (fun c_1554 => ?_)
  · have c_1554 := (nc_eq9 (by omega) (by omega) c_1554)
    refine lv_iload hx hb dL_law_1559 (lv_at hl 1 rfl) ?_
    refine lv_if_ne (tgt := 1576) hx hb dL_law_1561 (by decide) (fun c_1561 => ?_) (fun c_1561 => ?_)
    · have c_1561 := (nz_ne c_1561 (by omega))
      refine lv_goto (tgt := 1691) hx hb dL_law_1576 (by decide) ?_
      exact kk u.2 (r9) σ Hh n K fl tx ln u.1 H locs ls (fI_mono hu.2 (by (try split) <;> omega) (by omega)) (mI_mono hr9.2 (by (try split) <;> omega) (by omega)) hP hD hS (lv_sub hl [2, 3, 4, 5, 6] rfl)
    · have c_1561 := (nz_eq c_1561 (by omega))
      have c_1561 : rkm 0 1 0 (fSim (xs (i + 3))) = 0 := c_1561
      have hz9 : fSim (xs (i + 3)) = 0 := rkm_z (by unfold fSim rkm; (repeat' split) <;> omega) c_1561
      refine lv_aload_n hx hb dL_law_1564 rfl (lv_at hl 5 rfl) ?_
      refine lv_iconst (v := (nI 0)) hx hb dL_law_1565 (by decide) ?_
      refine va_lald hx hb hK hP 9 3 rfl rfl (vp_in_nI (n := 0) (by omega) (by omega)) dL_law_1566 ?_
      refine tl (show u.1 (nI 0).toNatClampNeg = ((simA σ (siS ((((xs (i + 1)).toInt64) <<< ((nI 32).toInt64 &&& 63)) ||| (((xs (i + 2)).toInt64) &&& (4294967295 : Int64))) σ (xs (i + 3)).toNatClampNeg)) : Int32).toInt64 from by rw [nI_clamp (by omega)]; exact hu.1 hz9) ?_
      refine lv_iload hx hb dL_law_1567 (lv_at hl 0 rfl) ?_
      refine ti (show (if fSim (xs (i + 3)) = 0 then simA σ (siS ((((xs (i + 1)).toInt64) <<< ((nI 32).toInt64 &&& 63)) ||| (((xs (i + 2)).toInt64) &&& (4294967295 : Int64))) σ (xs (i + 3)).toNatClampNeg) else 0) = (simA σ (siS ((((xs (i + 1)).toInt64) <<< ((nI 32).toInt64 &&& 63)) ||| (((xs (i + 2)).toInt64) &&& (4294967295 : Int64))) σ (xs (i + 3)).toNatClampNeg)) from (by rw [if_pos hz9])) ?_
      refine lv_i2l (v := (simA σ (siS ((((xs (i + 1)).toInt64) <<< ((nI 32).toInt64 &&& 63)) ||| (((xs (i + 2)).toInt64) &&& (4294967295 : Int64))) σ (xs (i + 3)).toNatClampNeg)).toInt64) hx hb dL_law_1569 rfl ?_
      refine W.lcmp hx hb dL_law_1570 ?_
      refine lv_if_eq (tgt := 1576) hx hb dL_law_1571 (by decide) (fun c_1571 => ?_) (fun c_1571 => ?_)
      · have c_1571 := lc_eq c_1571
        refine lv_goto (tgt := 1691) hx hb dL_law_1576 (by decide) ?_
        exact kk u.2 (r9) σ Hh n K fl tx ln u.1 H locs ls (fI_mono hu.2 (by (try split) <;> omega) (by omega)) (mI_mono hr9.2 (by (try split) <;> omega) (by omega)) hP hD hS (lv_sub hl [2, 3, 4, 5, 6] rfl)
      · have c_1571 := lc_ne c_1571
        exact absurd rfl c_1571
  · have c_1554 := (nc_ne9 (by omega) (by omega) c_1554)
    exact absurd rfl c_1554
set_option maxHeartbeats 4000000 in
set_option maxRecDepth 100000 in
theorem lw_save {pX : Program} {l : Launch} {eX : Env} {s : State} {mX : MethodId} {below : List Frame} {meth : Method} {cX : Code} {b L : Nat} {xs : Nat → Int32} {QX : State → Prop} {A : Nat → Prop} (hfl : l.stackTraces = false) (g : va_G) (cy : Nat → ClassId) (hx : pX.tables.exec = Jvm.exec) (hb : cX.code = cL_law) (hml : cX.maxLocals = 7) (hown : s.vm.findClass RL = some mX.cls) (hts : ∀ w ∈ wsL_law, w.before #[Value.ref b] s = true) (hA : ∀ q : Nat, s.heap.size ≤ q → A q) (hK : va_K g vwCl (Ty cy) s) (hX : Cx A s s.heap) (hY : Cy s) (hXs : va_X b L xs s s.heap) (hbl : b < s.heap.size) (hbA : ¬ A b) (hL : L ≤ 3072)
    {x a tr s0 s1 ma : Nat → Nat} {pa : Nat → Nat → Nat} {out i bd cells slots : Nat} {q : Sc} {r : Mc} {σ : Nat → Nat} {Hh : Nat → Nat → Nat} {n : Nat} {K : Nat → Nat → Nat} {fl : Nat → Bool} {tx : Nat → Nat} {ln : Nat} {f : Nat → Int64} {H : Heap} {locs : List Loc} {ls : Array Slot} (hi : i + 6 ≤ L) (hbd1 : 11880 ≤ bd) (hbd2 : bd ≤ 63000) (hc9 : cells ≤ 10000) (hs9 : slots ≤ 100000) (hI : fI bd q σ Hh n K fl tx ln) (hM : mI bd r σ Hh n K fl tx ln) (hP : va_P g vwCl (mQ cy ma r σ n fl tx ln ++ ([aJ cy out 1 f] ++ fQ cy x a tr s0 s1 pa q σ n fl tx ln)) H) (hD : va_D A (mQ cy ma r σ n fl tx ln ++ ([aJ cy out 1 f] ++ fQ cy x a tr s0 s1 pa q σ n fl tx ln))) (hS : va_S A s.heap H locs) (hl : lv_has ls 7 [(0, .ref b), (1, .ref (x 0)), (2, .ref (ma 0)), (3, .ref out), (4, .int (nI i))])
    (kk : ∀ (q : Sc) (r : Mc) (σ : Nat → Nat) (Hh : Nat → Nat → Nat) (n : Nat) (K : Nat → Nat → Nat) (fl : Nat → Bool) (tx : Nat → Nat) (ln : Nat) (f : Nat → Int64) (H : Heap) (locs : List Loc) (ls : Array Slot), fI (bd + 99) q σ Hh n K fl tx ln → mI (bd + 99) r σ Hh n K fl tx ln → va_P g vwCl (mQ cy ma r σ n fl tx ln ++ ([aJ cy out 1 f] ++ fQ cy x a tr s0 s1 pa q σ n fl tx ln)) H → va_D A (mQ cy ma r σ n fl tx ln ++ ([aJ cy out 1 f] ++ fQ cy x a tr s0 s1 pa q σ n fl tx ln)) → va_S A s.heap H locs → lv_has ls 7 [(0, .ref b), (1, .ref (x 0)), (2, .ref (ma 0)), (3, .ref out), (4, .int (nI i))] → W pX l eX room_1 s mX #[Value.ref b] below meth cX H locs (cells + 1) (slots + 6) QX (F0 mX 1691 ls [])) :
    W pX l eX room_1 s mX #[Value.ref b] below meth cX H locs cells slots QX (F0 mX 1579 ls []) := by
  have hl : lv_has ls 7 [(0, .ref b), (1, .ref (x 0)), (2, .ref (ma 0)), (3, .ref out), (4, .int (nI i))] := hl
  refine lv_aload_n hx hb dL_law_1579 rfl (lv_at hl 1 rfl) ?_
  refine lv_aload_n hx hb dL_law_1580 rfl (lv_at hl 0 rfl) ?_
  refine lv_iload hx hb dL_law_1581 (lv_at hl 4 rfl) ?_
  refine lv_iconst (v := (nI 1)) hx hb dL_law_1583 (by decide) ?_
  refine lv_iadd hx hb dL_law_1584 ?_
  refine ti (nI_add i 1) ?_
  refine va_sld hx hb hXs hbl hbA hS (vp_in_nI (n := (i + 1)) (by omega) (by omega)) dL_law_1585 ?_
  refine ti (show xs (nI (i + 1)).toNatClampNeg = xs (i + 1) from by rw [nI_clamp (by omega)]) ?_
  refine lv_aload_n hx hb dL_law_1586 rfl (lv_at hl 3 rfl) ?_
  refine wr_callS (pre := mQ cy ma r σ n fl tx ln) (wc := ([aJ cy out 1 f] ++ fQ cy x a tr s0 s1 pa q σ n fl tx ln)) (vx_runSW (hh := [(0, 9, 12, 28)]) (As := [.ref (x 0), .int (xs (i + 1)), .ref out]) (rest := []) ⟨hx, hb, hml, hown, hts⟩ (c_L_save l hfl g cy out f x a tr s0 s1 pa H.size bd q σ Hh n K fl tx ln (xs (i + 1)) hI ) (vx_cwSW 3 hts (hl_in wd41_10 wd6_9 wd41_8 wd41_9) rfl rfl rfl (by decide +kernel) ⟨Nat.le_of_ble_eq_true rfl, Nat.le_of_ble_eq_true rfl⟩) (ps2 hK hP hD hS hA hX hY _ nd_suffix at_suffix) rfl rfl hl.1 rfl (lv_room (Nat.le_of_ble_eq_true rfl)) dL_law_1587 ⟨by show _ ≤ 601024; omega, by show _ ≤ 7293033; omega⟩) hP hD hS hA (fun _ => congrArg (fun z => out :: z) fQ_ad) (fun u H locs hu hP hD hS => ?_)
  have hP : va_P g vwCl (mQ cy ma r σ n fl tx ln ++ ([aJ cy out 1 u.1] ++ fQ cy x a tr s0 s1 pa u.2 σ n (if fSlo (xs (i + 1)) = 0 then sv2 fl (xs (i + 1)).toNatClampNeg true else fl) tx ln)) H := hP
  have hD : va_D A (mQ cy ma r σ n fl tx ln ++ ([aJ cy out 1 u.1] ++ fQ cy x a tr s0 s1 pa u.2 σ n (if fSlo (xs (i + 1)) = 0 then sv2 fl (xs (i + 1)).toNatClampNeg true else fl) tx ln)) := hD
  have hrk9 : rkm 1 0 0 (fSlo (xs (i + 1))) < 10 := by unfold rkm; (repeat' split) <;> omega
  show W _ _ _ _ _ _ _ _ _ _ _ _ _ _ _ (F0 mX 1590 ls [.int (nI (rkm 1 0 0 (fSlo (xs (i + 1)))))])
  refine lv_istore (lv' := [(5, .int (nI (rkm 1 0 0 (fSlo (xs (i + 1)))))), (0, .ref b), (1, .ref (x 0)), (2, .ref (ma 0)), (3, .ref out), (4, .int (nI i))]) hx hb dL_law_1590 hl (by decide) rfl (fun ls hl => ?_)
  refine lv_aload_n hx hb dL_law_1592 rfl (lv_at hl 3 rfl) ?_
  refine lv_aload_n hx hb dL_law_1593 rfl (lv_at hl 1 rfl) ?_
  refine lv_iload hx hb dL_law_1594 (lv_at hl 5 rfl) ?_
  refine lv_iconst (v := (nI 1)) hx hb dL_law_1596 (by decide) ?_
  refine lv_iadd hx hb dL_law_1597 ?_
  refine ti (nI_add i 1) ?_
  refine va_sld hx hb hXs hbl hbA hS (vp_in_nI (n := (i + 1)) (by omega) (by omega)) dL_law_1598 ?_
  refine ti (show xs (nI (i + 1)).toNatClampNeg = xs (i + 1) from by rw [nI_clamp (by omega)]) ?_
  obtain ⟨hP, hD⟩ := sw_PD (L := []) (M := mQ cy ma r σ n fl tx ln) (T := ([aJ cy out 1 u.1] ++ fQ cy x a tr s0 s1 pa u.2 σ n (if fSlo (xs (i + 1)) = 0 then sv2 fl (xs (i + 1)).toNatClampNeg true else fl) tx ln)) hP hD
  have hP : va_P g vwCl (([aJ cy out 1 u.1] ++ fQ cy x a tr s0 s1 pa u.2 σ n (if fSlo (xs (i + 1)) = 0 then sv2 fl (xs (i + 1)).toNatClampNeg true else fl) tx ln) ++ mQ cy ma r σ n fl tx ln) H := hP
  have hD : va_D A (([aJ cy out 1 u.1] ++ fQ cy x a tr s0 s1 pa u.2 σ n (if fSlo (xs (i + 1)) = 0 then sv2 fl (xs (i + 1)).toNatClampNeg true else fl) tx ln) ++ mQ cy ma r σ n fl tx ln) := hD
  refine wr_callS (pre := ([aJ cy out 1 u.1] ++ fQ cy x a tr s0 s1 pa u.2 σ n (if fSlo (xs (i + 1)) = 0 then sv2 fl (xs (i + 1)).toNatClampNeg true else fl) tx ln)) (wc := mQ cy ma r σ n fl tx ln) (va_runV (As := [.int (xs (i + 1))]) (rest := []) ⟨hx, hb, hml, hown, hts⟩ (c_X8_save l g cy ma H.size bd r σ Hh n K fl tx ln (xs (i + 1)) hM ) ⟨cB 1 hts wd41_22 wd1_5 wd41_19 rfl rfl (by decide +kernel) ⟨Nat.le_of_ble_eq_true rfl, Nat.le_of_ble_eq_true rfl⟩, hts _ wd41_20, hts _ wd41_21⟩ (pvS hK hP hD hS hA hX 6 rfl rfl) rfl rfl hl.1 rfl (lv_room (Nat.le_of_ble_eq_true rfl)) dL_law_1599 ⟨by show _ ≤ 601024; omega, by show _ ≤ 7293033; omega⟩) hP hD hS hA (fun _ => mQ_ad) (fun r9 H locs hr9 hP hD hS => ?_)
  have hP : va_P g vwCl (([aJ cy out 1 u.1] ++ fQ cy x a tr s0 s1 pa u.2 σ n (if fSlo (xs (i + 1)) = 0 then sv2 fl (xs (i + 1)).toNatClampNeg true else fl) tx ln) ++ (mQ cy ma r9 σ n (if fSlo (xs (i + 1)) = 0 then sv2 fl (xs (i + 1)).toNatClampNeg true else fl) tx ln)) H := hP
  have hD : va_D A (([aJ cy out 1 u.1] ++ fQ cy x a tr s0 s1 pa u.2 σ n (if fSlo (xs (i + 1)) = 0 then sv2 fl (xs (i + 1)).toNatClampNeg true else fl) tx ln) ++ (mQ cy ma r9 σ n (if fSlo (xs (i + 1)) = 0 then sv2 fl (xs (i + 1)).toNatClampNeg true else fl) tx ln)) := hD
  obtain ⟨hP, hD⟩ := sw_PD (L := []) (M := ([aJ cy out 1 u.1] ++ fQ cy x a tr s0 s1 pa u.2 σ n (if fSlo (xs (i + 1)) = 0 then sv2 fl (xs (i + 1)).toNatClampNeg true else fl) tx ln)) (T := (mQ cy ma r9 σ n (if fSlo (xs (i + 1)) = 0 then sv2 fl (xs (i + 1)).toNatClampNeg true else fl) tx ln)) hP hD
  have hP : va_P g vwCl ((mQ cy ma r9 σ n (if fSlo (xs (i + 1)) = 0 then sv2 fl (xs (i + 1)).toNatClampNeg true else fl) tx ln) ++ ([aJ cy out 1 u.1] ++ fQ cy x a tr s0 s1 pa u.2 σ n (if fSlo (xs (i + 1)) = 0 then sv2 fl (xs (i + 1)).toNatClampNeg true else fl) tx ln)) H := hP
  have hD : va_D A ((mQ cy ma r9 σ n (if fSlo (xs (i + 1)) = 0 then sv2 fl (xs (i + 1)).toNatClampNeg true else fl) tx ln) ++ ([aJ cy out 1 u.1] ++ fQ cy x a tr s0 s1 pa u.2 σ n (if fSlo (xs (i + 1)) = 0 then sv2 fl (xs (i + 1)).toNatClampNeg true else fl) tx ln)) := hD
  show W _ _ _ _ _ _ _ _ _ _ _ _ _ _ _ (F0 mX 1602 ls [.int (nI (if fSlo (xs (i + 1)) = 0 then σ 2 else 0))])
  refine lv_istore (lv' := [(6, .int (nI (if fSlo (xs (i + 1)) = 0 then σ 2 else 0))), (5, .int (nI (rkm 1 0 0 (fSlo (xs (i + 1)))))), (0, .ref b), (1, .ref (x 0)), (2, .ref (ma 0)), (3, .ref out), (4, .int (nI i))]) hx hb dL_law_1602 hl (by decide) rfl (fun ls hl => ?_)
  refine lv_aload_n hx hb dL_law_1604 rfl (lv_at hl 4 rfl) ?_
  obtain ⟨hP, hD⟩ := sw_PD (L := []) (M := (mQ cy ma r9 σ n (if fSlo (xs (i + 1)) = 0 then sv2 fl (xs (i + 1)).toNatClampNeg true else fl) tx ln)) (T := ([aJ cy out 1 u.1] ++ fQ cy x a tr s0 s1 pa u.2 σ n (if fSlo (xs (i + 1)) = 0 then sv2 fl (xs (i + 1)).toNatClampNeg true else fl) tx ln)) hP hD
  have hP : va_P g vwCl (([aJ cy out 1 u.1] ++ fQ cy x a tr s0 s1 pa u.2 σ n (if fSlo (xs (i + 1)) = 0 then sv2 fl (xs (i + 1)).toNatClampNeg true else fl) tx ln) ++ (mQ cy ma r9 σ n (if fSlo (xs (i + 1)) = 0 then sv2 fl (xs (i + 1)).toNatClampNeg true else fl) tx ln)) H := hP
  have hD : va_D A (([aJ cy out 1 u.1] ++ fQ cy x a tr s0 s1 pa u.2 σ n (if fSlo (xs (i + 1)) = 0 then sv2 fl (xs (i + 1)).toNatClampNeg true else fl) tx ln) ++ (mQ cy ma r9 σ n (if fSlo (xs (i + 1)) = 0 then sv2 fl (xs (i + 1)).toNatClampNeg true else fl) tx ln)) := hD
  refine rd_call (va_runV (As := []) (rest := []) ⟨hx, hb, hml, hown, hts⟩ (c_X8_thrown l g cy H.size ma r9.1 r9.2.1 r9.2.2.1 r9.2.2.2.1 r9.2.2.2.2.1 r9.2.2.2.2.2.1 r9.2.2.2.2.2.2.1 r9.2.2.2.2.2.2.2 σ n (if fSlo (xs (i + 1)) = 0 then sv2 fl (xs (i + 1)).toNatClampNeg true else fl) tx ln) ⟨cB 0 hts wd8_2 wd1_5 wd7_23 rfl rfl (by decide +kernel) ⟨Nat.le_of_ble_eq_true rfl, Nat.le_of_ble_eq_true rfl⟩, hts _ wd8_0, hts _ wd8_1⟩ (pvS (wc := (mQ cy ma r9 σ n (if fSlo (xs (i + 1)) = 0 then sv2 fl (xs (i + 1)).toNatClampNeg true else fl) tx ln)) hK hP hD hS hA hX 6 rfl rfl) rfl rfl hl.1 rfl (lv_room (Nat.le_of_ble_eq_true rfl)) dL_law_1605 ⟨by show _ ≤ 601024; omega, by show _ ≤ 7293033; omega⟩) ?_
  obtain ⟨hP, hD⟩ := sw_PD (L := []) (M := ([aJ cy out 1 u.1] ++ fQ cy x a tr s0 s1 pa u.2 σ n (if fSlo (xs (i + 1)) = 0 then sv2 fl (xs (i + 1)).toNatClampNeg true else fl) tx ln)) (T := (mQ cy ma r9 σ n (if fSlo (xs (i + 1)) = 0 then sv2 fl (xs (i + 1)).toNatClampNeg true else fl) tx ln)) hP hD
  have hP : va_P g vwCl ((mQ cy ma r9 σ n (if fSlo (xs (i + 1)) = 0 then sv2 fl (xs (i + 1)).toNatClampNeg true else fl) tx ln) ++ ([aJ cy out 1 u.1] ++ fQ cy x a tr s0 s1 pa u.2 σ n (if fSlo (xs (i + 1)) = 0 then sv2 fl (xs (i + 1)).toNatClampNeg true else fl) tx ln)) H := hP
  have hD : va_D A ((mQ cy ma r9 σ n (if fSlo (xs (i + 1)) = 0 then sv2 fl (xs (i + 1)).toNatClampNeg true else fl) tx ln) ++ ([aJ cy out 1 u.1] ++ fQ cy x a tr s0 s1 pa u.2 σ n (if fSlo (xs (i + 1)) = 0 then sv2 fl (xs (i + 1)).toNatClampNeg true else fl) tx ln)) := hD
  refine ti (show nI r9.2.2.2.2.2.2.2 = nI (rkm 1 0 0 (fSlo (xs (i + 1)))) from congrArg nI hr9.1) ?_
  show W _ _ _ _ _ _ _ _ _ _ _ _ _ _ _ (F0 mX 1608 ls [.int (nI (rkm 1 0 0 (fSlo (xs (i + 1)))))])
  refine lv_iload hx hb dL_law_1608 (lv_at hl 1 rfl) ?_
  refine lv_icmp_eq (tgt := 1615) hx hb dL_law_1610 (by decide) (fun c_1610 => ?_) (fun c_1610 => ?_)
  · have c_1610 := (nc_eq9 (by omega) (by omega) c_1610)
    refine lv_iload hx hb dL_law_1615 (lv_at hl 1 rfl) ?_
    refine lv_if_ne (tgt := 1632) hx hb dL_law_1617 (by decide) (fun c_1617 => ?_) (fun c_1617 => ?_)
    · have c_1617 := (nz_ne c_1617 (by omega))
      refine lv_goto (tgt := 1691) hx hb dL_law_1632 (by decide) ?_
      exact kk u.2 (r9) σ Hh n (if fSlo (xs (i + 1)) = 0 then sv2 K (xs (i + 1)).toNatClampNeg σ else K) (if fSlo (xs (i + 1)) = 0 then sv2 fl (xs (i + 1)).toNatClampNeg true else fl) tx ln u.1 H locs ls (fI_mono hu.2 (by (try split) <;> omega) (by omega)) (mI_mono hr9.2 (by (try split) <;> omega) (by omega)) hP hD hS (lv_sub hl [2, 3, 4, 5, 6] rfl)
    · have c_1617 := (nz_eq c_1617 (by omega))
      have c_1617 : rkm 1 0 0 (fSlo (xs (i + 1))) = 0 := c_1617
      have hz9 : fSlo (xs (i + 1)) = 0 := rkm_z (by unfold fSlo rkm; (repeat' split) <;> omega) c_1617
      refine lv_aload_n hx hb dL_law_1620 rfl (lv_at hl 5 rfl) ?_
      refine lv_iconst (v := (nI 0)) hx hb dL_law_1621 (by decide) ?_
      refine va_lald hx hb hK hP 9 3 rfl rfl (vp_in_nI (n := 0) (by omega) (by omega)) dL_law_1622 ?_
      refine tl (show u.1 (nI 0).toNatClampNeg = ((nI (σ 2)) : Int32).toInt64 from by rw [nI_clamp (by omega)]; exact hu.1 hz9) ?_
      refine lv_iload hx hb dL_law_1623 (lv_at hl 0 rfl) ?_
      refine ti (show (nI (if fSlo (xs (i + 1)) = 0 then σ 2 else 0)) = (nI (σ 2)) from (by rw [if_pos hz9])) ?_
      refine lv_i2l (v := (nI (σ 2)).toInt64) hx hb dL_law_1625 rfl ?_
      refine W.lcmp hx hb dL_law_1626 ?_
      refine lv_if_eq (tgt := 1632) hx hb dL_law_1627 (by decide) (fun c_1627 => ?_) (fun c_1627 => ?_)
      · have c_1627 := lc_eq c_1627
        refine lv_goto (tgt := 1691) hx hb dL_law_1632 (by decide) ?_
        exact kk u.2 (r9) σ Hh n (if fSlo (xs (i + 1)) = 0 then sv2 K (xs (i + 1)).toNatClampNeg σ else K) (if fSlo (xs (i + 1)) = 0 then sv2 fl (xs (i + 1)).toNatClampNeg true else fl) tx ln u.1 H locs ls (fI_mono hu.2 (by (try split) <;> omega) (by omega)) (mI_mono hr9.2 (by (try split) <;> omega) (by omega)) hP hD hS (lv_sub hl [2, 3, 4, 5, 6] rfl)
      · have c_1627 := lc_ne c_1627
        exact absurd rfl c_1627
  · have c_1610 := (nc_ne9 (by omega) (by omega) c_1610)
    exact absurd rfl c_1610
set_option maxHeartbeats 4000000 in
set_option maxRecDepth 100000 in
theorem lw_restore {pX : Program} {l : Launch} {eX : Env} {s : State} {mX : MethodId} {below : List Frame} {meth : Method} {cX : Code} {b L : Nat} {xs : Nat → Int32} {QX : State → Prop} {A : Nat → Prop} (hfl : l.stackTraces = false) (g : va_G) (cy : Nat → ClassId) (hx : pX.tables.exec = Jvm.exec) (hb : cX.code = cL_law) (hml : cX.maxLocals = 7) (hown : s.vm.findClass RL = some mX.cls) (hts : ∀ w ∈ wsL_law, w.before #[Value.ref b] s = true) (hA : ∀ q : Nat, s.heap.size ≤ q → A q) (hK : va_K g vwCl (Ty cy) s) (hX : Cx A s s.heap) (hY : Cy s) (hXs : va_X b L xs s s.heap) (hbl : b < s.heap.size) (hbA : ¬ A b) (hL : L ≤ 3072)
    {x a tr s0 s1 ma : Nat → Nat} {pa : Nat → Nat → Nat} {out i bd cells slots : Nat} {q : Sc} {r : Mc} {σ : Nat → Nat} {Hh : Nat → Nat → Nat} {n : Nat} {K : Nat → Nat → Nat} {fl : Nat → Bool} {tx : Nat → Nat} {ln : Nat} {f : Nat → Int64} {H : Heap} {locs : List Loc} {ls : Array Slot} (hi : i + 6 ≤ L) (hbd1 : 11880 ≤ bd) (hbd2 : bd ≤ 63000) (hc9 : cells ≤ 10000) (hs9 : slots ≤ 100000) (hI : fI bd q σ Hh n K fl tx ln) (hM : mI bd r σ Hh n K fl tx ln) (hP : va_P g vwCl (mQ cy ma r σ n fl tx ln ++ ([aJ cy out 1 f] ++ fQ cy x a tr s0 s1 pa q σ n fl tx ln)) H) (hD : va_D A (mQ cy ma r σ n fl tx ln ++ ([aJ cy out 1 f] ++ fQ cy x a tr s0 s1 pa q σ n fl tx ln))) (hS : va_S A s.heap H locs) (hl : lv_has ls 7 [(0, .ref b), (1, .ref (x 0)), (2, .ref (ma 0)), (3, .ref out), (4, .int (nI i))])
    (kk : ∀ (q : Sc) (r : Mc) (σ : Nat → Nat) (Hh : Nat → Nat → Nat) (n : Nat) (K : Nat → Nat → Nat) (fl : Nat → Bool) (tx : Nat → Nat) (ln : Nat) (f : Nat → Int64) (H : Heap) (locs : List Loc) (ls : Array Slot), fI (bd + 99) q σ Hh n K fl tx ln → mI (bd + 99) r σ Hh n K fl tx ln → va_P g vwCl (mQ cy ma r σ n fl tx ln ++ ([aJ cy out 1 f] ++ fQ cy x a tr s0 s1 pa q σ n fl tx ln)) H → va_D A (mQ cy ma r σ n fl tx ln ++ ([aJ cy out 1 f] ++ fQ cy x a tr s0 s1 pa q σ n fl tx ln)) → va_S A s.heap H locs → lv_has ls 7 [(0, .ref b), (1, .ref (x 0)), (2, .ref (ma 0)), (3, .ref out), (4, .int (nI i))] → W pX l eX room_1 s mX #[Value.ref b] below meth cX H locs (cells + 1) (slots + 6) QX (F0 mX 1691 ls [])) :
    W pX l eX room_1 s mX #[Value.ref b] below meth cX H locs cells slots QX (F0 mX 1635 ls []) := by
  have hl : lv_has ls 7 [(0, .ref b), (1, .ref (x 0)), (2, .ref (ma 0)), (3, .ref out), (4, .int (nI i))] := hl
  refine lv_aload_n hx hb dL_law_1635 rfl (lv_at hl 1 rfl) ?_
  refine lv_aload_n hx hb dL_law_1636 rfl (lv_at hl 0 rfl) ?_
  refine lv_iload hx hb dL_law_1637 (lv_at hl 4 rfl) ?_
  refine lv_iconst (v := (nI 1)) hx hb dL_law_1639 (by decide) ?_
  refine lv_iadd hx hb dL_law_1640 ?_
  refine ti (nI_add i 1) ?_
  refine va_sld hx hb hXs hbl hbA hS (vp_in_nI (n := (i + 1)) (by omega) (by omega)) dL_law_1641 ?_
  refine ti (show xs (nI (i + 1)).toNatClampNeg = xs (i + 1) from by rw [nI_clamp (by omega)]) ?_
  refine lv_aload_n hx hb dL_law_1642 rfl (lv_at hl 3 rfl) ?_
  refine wr_callS (pre := mQ cy ma r σ n fl tx ln) (wc := ([aJ cy out 1 f] ++ fQ cy x a tr s0 s1 pa q σ n fl tx ln)) (vx_runSW (hh := [(0, 9, 12, 28), (0, 9, 15, 15)]) (As := [.ref (x 0), .int (xs (i + 1)), .ref out]) (rest := []) ⟨hx, hb, hml, hown, hts⟩ (c_L_restore l hfl g cy out f x a tr s0 s1 pa H.size bd q σ Hh n K fl tx ln (xs (i + 1)) hI ) (vx_cwSW 3 hts (hl_in wd42_1 wd6_9 wd41_23 wd42_0) rfl rfl rfl (by decide +kernel) ⟨Nat.le_of_ble_eq_true rfl, Nat.le_of_ble_eq_true rfl⟩) (ps2 hK hP hD hS hA hX hY _ nd_suffix at_suffix) rfl rfl hl.1 rfl (lv_room (Nat.le_of_ble_eq_true rfl)) dL_law_1643 ⟨by show _ ≤ 601024; omega, by show _ ≤ 7293033; omega⟩) hP hD hS hA (fun _ => congrArg (fun z => out :: z) fQ_ad) (fun u H locs hu hP hD hS => ?_)
  have hP : va_P g vwCl (mQ cy ma r σ n fl tx ln ++ ([aJ cy out 1 u.1] ++ fQ cy x a tr s0 s1 pa u.2 (if fRes fl (xs (i + 1)) = 0 then K (xs (i + 1)).toNatClampNeg else σ) (if fRes fl (xs (i + 1)) = 0 then 0 else n) fl tx ln)) H := hP
  have hD : va_D A (mQ cy ma r σ n fl tx ln ++ ([aJ cy out 1 u.1] ++ fQ cy x a tr s0 s1 pa u.2 (if fRes fl (xs (i + 1)) = 0 then K (xs (i + 1)).toNatClampNeg else σ) (if fRes fl (xs (i + 1)) = 0 then 0 else n) fl tx ln)) := hD
  have hrk9 : rkm 1 0 2 (fRes fl (xs (i + 1))) < 10 := by unfold rkm; (repeat' split) <;> omega
  show W _ _ _ _ _ _ _ _ _ _ _ _ _ _ _ (F0 mX 1646 ls [.int (nI (rkm 1 0 2 (fRes fl (xs (i + 1)))))])
  refine lv_istore (lv' := [(5, .int (nI (rkm 1 0 2 (fRes fl (xs (i + 1)))))), (0, .ref b), (1, .ref (x 0)), (2, .ref (ma 0)), (3, .ref out), (4, .int (nI i))]) hx hb dL_law_1646 hl (by decide) rfl (fun ls hl => ?_)
  refine lv_aload_n hx hb dL_law_1648 rfl (lv_at hl 3 rfl) ?_
  refine lv_aload_n hx hb dL_law_1649 rfl (lv_at hl 1 rfl) ?_
  refine lv_iload hx hb dL_law_1650 (lv_at hl 5 rfl) ?_
  refine lv_iconst (v := (nI 1)) hx hb dL_law_1652 (by decide) ?_
  refine lv_iadd hx hb dL_law_1653 ?_
  refine ti (nI_add i 1) ?_
  refine va_sld hx hb hXs hbl hbA hS (vp_in_nI (n := (i + 1)) (by omega) (by omega)) dL_law_1654 ?_
  refine ti (show xs (nI (i + 1)).toNatClampNeg = xs (i + 1) from by rw [nI_clamp (by omega)]) ?_
  obtain ⟨hP, hD⟩ := sw_PD (L := []) (M := mQ cy ma r σ n fl tx ln) (T := ([aJ cy out 1 u.1] ++ fQ cy x a tr s0 s1 pa u.2 (if fRes fl (xs (i + 1)) = 0 then K (xs (i + 1)).toNatClampNeg else σ) (if fRes fl (xs (i + 1)) = 0 then 0 else n) fl tx ln)) hP hD
  have hP : va_P g vwCl (([aJ cy out 1 u.1] ++ fQ cy x a tr s0 s1 pa u.2 (if fRes fl (xs (i + 1)) = 0 then K (xs (i + 1)).toNatClampNeg else σ) (if fRes fl (xs (i + 1)) = 0 then 0 else n) fl tx ln) ++ mQ cy ma r σ n fl tx ln) H := hP
  have hD : va_D A (([aJ cy out 1 u.1] ++ fQ cy x a tr s0 s1 pa u.2 (if fRes fl (xs (i + 1)) = 0 then K (xs (i + 1)).toNatClampNeg else σ) (if fRes fl (xs (i + 1)) = 0 then 0 else n) fl tx ln) ++ mQ cy ma r σ n fl tx ln) := hD
  refine wr_callS (pre := ([aJ cy out 1 u.1] ++ fQ cy x a tr s0 s1 pa u.2 (if fRes fl (xs (i + 1)) = 0 then K (xs (i + 1)).toNatClampNeg else σ) (if fRes fl (xs (i + 1)) = 0 then 0 else n) fl tx ln)) (wc := mQ cy ma r σ n fl tx ln) (va_runV (As := [.int (xs (i + 1))]) (rest := []) ⟨hx, hb, hml, hown, hts⟩ (c_X8_restore l g cy ma H.size bd r σ Hh n K fl tx ln (xs (i + 1)) hM (fI_kep hI)) ⟨cB 1 hts wd42_9 wd1_5 wd42_6 rfl rfl (by decide +kernel) ⟨Nat.le_of_ble_eq_true rfl, Nat.le_of_ble_eq_true rfl⟩, hts _ wd42_7, hts _ wd42_8⟩ (pvS hK hP hD hS hA hX 6 rfl rfl) rfl rfl hl.1 rfl (lv_room (Nat.le_of_ble_eq_true rfl)) dL_law_1655 ⟨by show _ ≤ 601024; omega, by show _ ≤ 7293033; omega⟩) hP hD hS hA (fun _ => mQ_ad) (fun r9 H locs hr9 hP hD hS => ?_)
  have hP : va_P g vwCl (([aJ cy out 1 u.1] ++ fQ cy x a tr s0 s1 pa u.2 (if fRes fl (xs (i + 1)) = 0 then K (xs (i + 1)).toNatClampNeg else σ) (if fRes fl (xs (i + 1)) = 0 then 0 else n) fl tx ln) ++ (mQ cy ma r9 (if fRes fl (xs (i + 1)) = 0 then K (xs (i + 1)).toNatClampNeg else σ) (if fRes fl (xs (i + 1)) = 0 then 0 else n) fl tx ln)) H := hP
  have hD : va_D A (([aJ cy out 1 u.1] ++ fQ cy x a tr s0 s1 pa u.2 (if fRes fl (xs (i + 1)) = 0 then K (xs (i + 1)).toNatClampNeg else σ) (if fRes fl (xs (i + 1)) = 0 then 0 else n) fl tx ln) ++ (mQ cy ma r9 (if fRes fl (xs (i + 1)) = 0 then K (xs (i + 1)).toNatClampNeg else σ) (if fRes fl (xs (i + 1)) = 0 then 0 else n) fl tx ln)) := hD
  obtain ⟨hP, hD⟩ := sw_PD (L := []) (M := ([aJ cy out 1 u.1] ++ fQ cy x a tr s0 s1 pa u.2 (if fRes fl (xs (i + 1)) = 0 then K (xs (i + 1)).toNatClampNeg else σ) (if fRes fl (xs (i + 1)) = 0 then 0 else n) fl tx ln)) (T := (mQ cy ma r9 (if fRes fl (xs (i + 1)) = 0 then K (xs (i + 1)).toNatClampNeg else σ) (if fRes fl (xs (i + 1)) = 0 then 0 else n) fl tx ln)) hP hD
  have hP : va_P g vwCl ((mQ cy ma r9 (if fRes fl (xs (i + 1)) = 0 then K (xs (i + 1)).toNatClampNeg else σ) (if fRes fl (xs (i + 1)) = 0 then 0 else n) fl tx ln) ++ ([aJ cy out 1 u.1] ++ fQ cy x a tr s0 s1 pa u.2 (if fRes fl (xs (i + 1)) = 0 then K (xs (i + 1)).toNatClampNeg else σ) (if fRes fl (xs (i + 1)) = 0 then 0 else n) fl tx ln)) H := hP
  have hD : va_D A ((mQ cy ma r9 (if fRes fl (xs (i + 1)) = 0 then K (xs (i + 1)).toNatClampNeg else σ) (if fRes fl (xs (i + 1)) = 0 then 0 else n) fl tx ln) ++ ([aJ cy out 1 u.1] ++ fQ cy x a tr s0 s1 pa u.2 (if fRes fl (xs (i + 1)) = 0 then K (xs (i + 1)).toNatClampNeg else σ) (if fRes fl (xs (i + 1)) = 0 then 0 else n) fl tx ln)) := hD
  show W _ _ _ _ _ _ _ _ _ _ _ _ _ _ _ (F0 mX 1658 ls [.int (nI (if fRes fl (xs (i + 1)) = 0 then K (xs (i + 1)).toNatClampNeg 2 else 0))])
  refine lv_istore (lv' := [(6, .int (nI (if fRes fl (xs (i + 1)) = 0 then K (xs (i + 1)).toNatClampNeg 2 else 0))), (5, .int (nI (rkm 1 0 2 (fRes fl (xs (i + 1)))))), (0, .ref b), (1, .ref (x 0)), (2, .ref (ma 0)), (3, .ref out), (4, .int (nI i))]) hx hb dL_law_1658 hl (by decide) rfl (fun ls hl => ?_)
  refine lv_aload_n hx hb dL_law_1660 rfl (lv_at hl 4 rfl) ?_
  obtain ⟨hP, hD⟩ := sw_PD (L := []) (M := (mQ cy ma r9 (if fRes fl (xs (i + 1)) = 0 then K (xs (i + 1)).toNatClampNeg else σ) (if fRes fl (xs (i + 1)) = 0 then 0 else n) fl tx ln)) (T := ([aJ cy out 1 u.1] ++ fQ cy x a tr s0 s1 pa u.2 (if fRes fl (xs (i + 1)) = 0 then K (xs (i + 1)).toNatClampNeg else σ) (if fRes fl (xs (i + 1)) = 0 then 0 else n) fl tx ln)) hP hD
  have hP : va_P g vwCl (([aJ cy out 1 u.1] ++ fQ cy x a tr s0 s1 pa u.2 (if fRes fl (xs (i + 1)) = 0 then K (xs (i + 1)).toNatClampNeg else σ) (if fRes fl (xs (i + 1)) = 0 then 0 else n) fl tx ln) ++ (mQ cy ma r9 (if fRes fl (xs (i + 1)) = 0 then K (xs (i + 1)).toNatClampNeg else σ) (if fRes fl (xs (i + 1)) = 0 then 0 else n) fl tx ln)) H := hP
  have hD : va_D A (([aJ cy out 1 u.1] ++ fQ cy x a tr s0 s1 pa u.2 (if fRes fl (xs (i + 1)) = 0 then K (xs (i + 1)).toNatClampNeg else σ) (if fRes fl (xs (i + 1)) = 0 then 0 else n) fl tx ln) ++ (mQ cy ma r9 (if fRes fl (xs (i + 1)) = 0 then K (xs (i + 1)).toNatClampNeg else σ) (if fRes fl (xs (i + 1)) = 0 then 0 else n) fl tx ln)) := hD
  refine rd_call (va_runV (As := []) (rest := []) ⟨hx, hb, hml, hown, hts⟩ (c_X8_thrown l g cy H.size ma r9.1 r9.2.1 r9.2.2.1 r9.2.2.2.1 r9.2.2.2.2.1 r9.2.2.2.2.2.1 r9.2.2.2.2.2.2.1 r9.2.2.2.2.2.2.2 (if fRes fl (xs (i + 1)) = 0 then K (xs (i + 1)).toNatClampNeg else σ) (if fRes fl (xs (i + 1)) = 0 then 0 else n) fl tx ln) ⟨cB 0 hts wd8_2 wd1_5 wd7_23 rfl rfl (by decide +kernel) ⟨Nat.le_of_ble_eq_true rfl, Nat.le_of_ble_eq_true rfl⟩, hts _ wd8_0, hts _ wd8_1⟩ (pvS (wc := (mQ cy ma r9 (if fRes fl (xs (i + 1)) = 0 then K (xs (i + 1)).toNatClampNeg else σ) (if fRes fl (xs (i + 1)) = 0 then 0 else n) fl tx ln)) hK hP hD hS hA hX 6 rfl rfl) rfl rfl hl.1 rfl (lv_room (Nat.le_of_ble_eq_true rfl)) dL_law_1661 ⟨by show _ ≤ 601024; omega, by show _ ≤ 7293033; omega⟩) ?_
  obtain ⟨hP, hD⟩ := sw_PD (L := []) (M := ([aJ cy out 1 u.1] ++ fQ cy x a tr s0 s1 pa u.2 (if fRes fl (xs (i + 1)) = 0 then K (xs (i + 1)).toNatClampNeg else σ) (if fRes fl (xs (i + 1)) = 0 then 0 else n) fl tx ln)) (T := (mQ cy ma r9 (if fRes fl (xs (i + 1)) = 0 then K (xs (i + 1)).toNatClampNeg else σ) (if fRes fl (xs (i + 1)) = 0 then 0 else n) fl tx ln)) hP hD
  have hP : va_P g vwCl ((mQ cy ma r9 (if fRes fl (xs (i + 1)) = 0 then K (xs (i + 1)).toNatClampNeg else σ) (if fRes fl (xs (i + 1)) = 0 then 0 else n) fl tx ln) ++ ([aJ cy out 1 u.1] ++ fQ cy x a tr s0 s1 pa u.2 (if fRes fl (xs (i + 1)) = 0 then K (xs (i + 1)).toNatClampNeg else σ) (if fRes fl (xs (i + 1)) = 0 then 0 else n) fl tx ln)) H := hP
  have hD : va_D A ((mQ cy ma r9 (if fRes fl (xs (i + 1)) = 0 then K (xs (i + 1)).toNatClampNeg else σ) (if fRes fl (xs (i + 1)) = 0 then 0 else n) fl tx ln) ++ ([aJ cy out 1 u.1] ++ fQ cy x a tr s0 s1 pa u.2 (if fRes fl (xs (i + 1)) = 0 then K (xs (i + 1)).toNatClampNeg else σ) (if fRes fl (xs (i + 1)) = 0 then 0 else n) fl tx ln)) := hD
  refine ti (show nI r9.2.2.2.2.2.2.2 = nI (rkm 1 0 2 (fRes fl (xs (i + 1)))) from congrArg nI hr9.1) ?_
  show W _ _ _ _ _ _ _ _ _ _ _ _ _ _ _ (F0 mX 1664 ls [.int (nI (rkm 1 0 2 (fRes fl (xs (i + 1)))))])
  refine lv_iload hx hb dL_law_1664 (lv_at hl 1 rfl) ?_
  refine lv_icmp_eq (tgt := 1671) hx hb dL_law_1666 (by decide) (fun c_1666 => ?_) (fun c_1666 => ?_)
  · have c_1666 := (nc_eq9 (by omega) (by omega) c_1666)
    refine lv_iload hx hb dL_law_1671 (lv_at hl 1 rfl) ?_
    refine lv_if_ne (tgt := 1688) hx hb dL_law_1673 (by decide) (fun c_1673 => ?_) (fun c_1673 => ?_)
    · have c_1673 := (nz_ne c_1673 (by omega))
      refine lv_goto (tgt := 1691) hx hb dL_law_1688 (by decide) ?_
      exact kk u.2 (r9) (if fRes fl (xs (i + 1)) = 0 then K (xs (i + 1)).toNatClampNeg else σ) Hh (if fRes fl (xs (i + 1)) = 0 then 0 else n) K fl tx ln u.1 H locs ls (fI_mono hu.2 (by (try split) <;> omega) (by omega)) (mI_mono hr9.2 (by (try split) <;> omega) (by omega)) hP hD hS (lv_sub hl [2, 3, 4, 5, 6] rfl)
    · have c_1673 := (nz_eq c_1673 (by omega))
      have c_1673 : rkm 1 0 2 (fRes fl (xs (i + 1))) = 0 := c_1673
      have hz9 : fRes fl (xs (i + 1)) = 0 := rkm_z (by unfold fRes rkm; (repeat' split) <;> omega) c_1673
      refine lv_aload_n hx hb dL_law_1676 rfl (lv_at hl 5 rfl) ?_
      refine lv_iconst (v := (nI 0)) hx hb dL_law_1677 (by decide) ?_
      refine va_lald hx hb hK hP 9 3 rfl rfl (vp_in_nI (n := 0) (by omega) (by omega)) dL_law_1678 ?_
      refine tl (show u.1 (nI 0).toNatClampNeg = ((nI (K (xs (i + 1)).toNatClampNeg 2)) : Int32).toInt64 from by rw [nI_clamp (by omega)]; exact hu.1 hz9) ?_
      refine lv_iload hx hb dL_law_1679 (lv_at hl 0 rfl) ?_
      refine ti (show (nI (if fRes fl (xs (i + 1)) = 0 then K (xs (i + 1)).toNatClampNeg 2 else 0)) = (nI (K (xs (i + 1)).toNatClampNeg 2)) from (by rw [if_pos hz9])) ?_
      refine lv_i2l (v := (nI (K (xs (i + 1)).toNatClampNeg 2)).toInt64) hx hb dL_law_1681 rfl ?_
      refine W.lcmp hx hb dL_law_1682 ?_
      refine lv_if_eq (tgt := 1688) hx hb dL_law_1683 (by decide) (fun c_1683 => ?_) (fun c_1683 => ?_)
      · have c_1683 := lc_eq c_1683
        refine lv_goto (tgt := 1691) hx hb dL_law_1688 (by decide) ?_
        exact kk u.2 (r9) (if fRes fl (xs (i + 1)) = 0 then K (xs (i + 1)).toNatClampNeg else σ) Hh (if fRes fl (xs (i + 1)) = 0 then 0 else n) K fl tx ln u.1 H locs ls (fI_mono hu.2 (by (try split) <;> omega) (by omega)) (mI_mono hr9.2 (by (try split) <;> omega) (by omega)) hP hD hS (lv_sub hl [2, 3, 4, 5, 6] rfl)
      · have c_1683 := lc_ne c_1683
        exact absurd rfl c_1683
  · have c_1666 := (nc_ne9 (by omega) (by omega) c_1666)
    exact absurd rfl c_1666
