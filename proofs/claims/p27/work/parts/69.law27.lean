/-! P27: THE LAW: its script's numbers, its loop, its start. -/
def cX (L : Nat) (xs : Nat → Int32) (k : Nat) : Int32 := if k < L then xs k else nI ((15519979 * (k + 3)) + 11933)
def cl (L : Nat) (xs : Nat → Int32) (k : Nat) : Nat := (cX L xs k).toBitVec.toNat % 2 ^ 31
theorem cl_lt {L k : Nat} {xs : Nat → Int32} : cl L xs k < 2 ^ 31 := Nat.mod_lt _ (by decide)
theorem cl_e {L k : Nat} {xs : Nat → Int32} {z : Int32} (h : z = cX L xs k) : z &&& nI 2147483647 = nI (cl L xs k) := by
  subst h
  exact pk_and _ 31 (by decide +kernel)
/-- a static method's contract, where what it wants of its start is said otherwise -/
theorem mt_s {l : Launch} {y : MethodName} {rm : Room} {av : List Value} {P : State → Prop} {Qc : Array Value → State → Outcome → State → Prop} {mc ms : Nat} {free : Addr → Prop} {cc : ByteArray} {maxL : Nat} {ret : Option FieldType}
    (hy : plainName y.cls = true) (hlen : (lg_sl av).length ≤ maxL)
    (body : ∀ (p : Program) (e : Env) (s : State) (m : MethodId) (below : List Frame) (meth : Method) (c : Code) (ls : Array Slot), p.tables.exec = Jvm.exec → c.code = cc → meth.sig.returnType = ret → c.maxLocals = maxL → s.vm.findClass y.cls = some m.cls → (∀ w ∈ wsL_law, w.before av.toArray s = true) → meth.locks = false → P s →
      lv_has ls maxL (lv_args 0 av) → W p l e rm s m av.toArray below meth c s.heap [] 0 0 (MQ below Qc av.toArray s mc ms free) (F0 m 0 ls [])) : Met l y (Cond.code y cc maxL ret :: wsL_law) rm (va_Pc av P) Qc mc ms free := by
  refine Met.ofW (cc := cc) (maxL := maxL) (ret := ret) hy rfl ?_
  intro p e s m args below meth c s₁ B hml hv
  obtain ⟨rfl, hp⟩ := hv
  rw [lg_entry_eq]
  exact body p e s m below meth c _ B.exec B.bytes B.returns hml (findClass_of_methodNamed B.named) (fun w h => atoms_spec (ws := Cond.code y cc maxL ret :: wsL_law) B.pre w (List.mem_cons_of_mem _ h)) B.notSynchronized hp (lv_entry av hlen)
def prX (b L : Nat) (xs : Nat → Int32) (U : State) : Prop := va_X b L xs U U.heap ∧ b < U.heap.size
theorem psX {s : State} {H : Heap} {locs : List Loc} {A : Nat → Prop} {b L : Nat} {xs : Nat → Int32} {v : Value} (hXs : va_X b L xs s s.heap) (hbl : b < s.heap.size) (hbA : ¬ A b) (hS : va_S A s.heap H locs) : PreS s H (va_Pc [.ref b, v] (prX b L xs)) [.ref b, v] := by
  refine ⟨fun a U f mk h => ?_, fun U hU hW => ⟨rfl, ?_, ?_⟩⟩
  · obtain ⟨q0, q1, q2⟩ := h
    exact ⟨q0, va_X.moved (u := U) (U := U.calling f mk a) (Vm.Alike.refl U.vm) q1, q2⟩
  · subst hU
    exact va_X.moved hW.alike (hXs.kept (hS.2.1 b hbl hbA))
  · rw [hU]
    exact Nat.lt_of_lt_of_le hbl hS.1
theorem fQ_ad2 {cy : Nat → ClassId} {x a tr s0 s1 x1 a1 t1 u1 v1 : Nat → Nat} {pa p1 : Nat → Nat → Nat} {q q' r r' : Sc} {σ σ' σ2 σ3 : Nat → Nat} {n n' n2 n3 : Nat} {fl fl' fl2 fl3 : Nat → Bool} {tx tx' tx2 tx3 : Nat → Nat} {ln ln' ln2 ln3 : Nat} :
    (fQ cy x a tr s0 s1 pa q' σ' n' fl' tx' ln' ++ fQ cy x1 a1 t1 u1 v1 p1 r' σ3 n3 fl3 tx3 ln3).map Prod.fst = (fQ cy x a tr s0 s1 pa q σ n fl tx ln ++ fQ cy x1 a1 t1 u1 v1 p1 r σ2 n2 fl2 tx2 ln2).map Prod.fst := by
  rw [List.map_append, List.map_append]
  exact congr (congrArg _ fQ_ad) fQ_ad
theorem INV_0 {m p c r : Nat} {H0 K : Nat → Nat → Nat} : INV (loseS newS m p c r) (hiH H0 0 newS) (hiN 0) K (fun _ => false) := by
  refine ⟨PI_lose WF_newS (by decide) PI_new, Nat.succ_le_succ (Nat.zero_le _), fun k hk => ?_, fun k _ h => Bool.noConfusion h⟩
  have e : k = 0 := by
    have : hiN 0 = 1 := rfl
    omega
  subst e
  refine ⟨PI_new, Or.inr ⟨rfl, ?_⟩⟩
  show (if hiN 0 = 1 then loseS newS m p c r 2 else _) < 2
  rw [if_pos (show hiN 0 = 1 from rfl)]
  show newS 2 < 2
  decide
set_option maxHeartbeats 4000000 in
set_option maxRecDepth 100000 in
theorem c_L_cell (l : Launch) (b L k : Nat) (xs : Nat → Int32) (hk : k < 1000) (hL : L ≤ 260) : Met l yL_cell (Cond.code yL_cell cL_cell 2 (some .int) :: wsL_law) ({ frames := 0, cells := 0, slots := 0, locals := 0 } : Room) (va_Pc [.ref b, .int (nI k)] (prX b L xs)) (rd_Q (some (.int (nI (cl L xs k))))) 0 0 nF := by
  refine mt_s (cc := cL_cell) (maxL := 2) (ret := some .int) (by decide +kernel) (Nat.le_of_ble_eq_true rfl) ?_
  intro pX eX s mX below meth cX ls hx hb hr hml hown hts hlk hp9 hl
  have hl : lv_has ls 2 [(0, .ref b), (1, .int (nI k))] := hl
  obtain ⟨hXs, hbl⟩ := hp9
  have hS : va_S nF s.heap s.heap [] := va_S.rf
  refine lv_iload_n hx hb dL_cell_0 rfl (lv_at hl 1 rfl) ?_
  refine lv_aload_n hx hb dL_cell_1 rfl (lv_at hl 0 rfl) ?_
  refine va_slen hx hb hXs hbl (fun z => z) hS dL_cell_2 ?_
  show W _ _ _ _ _ _ _ _ _ _ _ _ _ _ _ (F0 mX 3 ls [.int (nI L), .int (nI k)])
  refine lv_icmp_ge (tgt := 12) hx hb dL_cell_3 (by decide) (fun c_3 => ?_) (fun c_3 => ?_)
  · have c_3 := (nc_le (by omega) (by omega) c_3)
    refine lv_ldc hx hb hown (hts _ wd5_16) dL_cell_12 ?_
    refine ti (show (15519979 : Int32) = nI 15519979 from by decide) ?_
    refine lv_iload_n hx hb dL_cell_14 rfl (lv_at hl 1 rfl) ?_
    refine lv_iconst (v := (nI 3)) hx hb dL_cell_15 (by decide) ?_
    refine lv_iadd hx hb dL_cell_16 ?_
    refine ti (nI_add k 3) ?_
    refine lv_imul hx hb dL_cell_17 ?_
    refine ti (pk_mul 15519979 (k + 3)) ?_
    refine lv_sipush (v := (nI 11933)) hx hb dL_cell_18 (by decide) ?_
    refine lv_iadd hx hb dL_cell_21 ?_
    refine ti (nI_add (15519979 * (k + 3)) 11933) ?_
    refine lv_ldc hx hb hown (hts _ wd5_17) dL_cell_22 ?_
    refine ti (show (2147483647 : Int32) = nI 2147483647 from by decide) ?_
    refine lv_iand hx hb dL_cell_24 ?_
    refine ti (cl_e (L := L) (xs := xs) (k := k) (z := (nI ((15519979 * (k + 3)) + 11933))) (if_neg (by omega)).symm) ?_
    exact rd_i rfl hx hb hr dL_cell_25 hlk
  · have c_3 := (nc_nle (by omega) (by omega) c_3)
    refine lv_aload_n hx hb dL_cell_6 rfl (lv_at hl 0 rfl) ?_
    refine lv_iload_n hx hb dL_cell_7 rfl (lv_at hl 1 rfl) ?_
    refine va_sld hx hb hXs hbl (fun z => z) hS (vp_in_nI (n := k) (by omega) (by omega)) dL_cell_8 ?_
    refine ti (show xs (nI k).toNatClampNeg = xs k from by rw [nI_clamp (by omega)]) ?_
    refine lv_goto (tgt := 22) hx hb dL_cell_9 (by decide) ?_
    refine lv_ldc hx hb hown (hts _ wd5_17) dL_cell_22 ?_
    refine ti (show (2147483647 : Int32) = nI 2147483647 from by decide) ?_
    refine lv_iand hx hb dL_cell_24 ?_
    refine ti (cl_e (L := L) (xs := xs) (k := k) (z := (xs k)) (if_pos c_3).symm) ?_
    exact rd_i rfl hx hb hr dL_cell_25 hlk
set_option maxHeartbeats 4000000 in
set_option maxRecDepth 100000 in
theorem lw_loop {pX : Program} {l : Launch} {eX : Env} {s : State} {mX : MethodId} {below : List Frame} {meth : Method} {cX : Code} {b L : Nat} {xs : Nat → Int32} {QX : State → Prop} {A : Nat → Prop} (hfl : l.stackTraces = false) (g : va_G) (cy : Nat → ClassId) (hx : pX.tables.exec = Jvm.exec) (hb : cX.code = cL_law) (hml : cX.maxLocals = 9) (hown : s.vm.findClass RL = some mX.cls) (hts : ∀ w ∈ wsL_law, w.before #[Value.ref b] s = true) (hA : ∀ q : Nat, s.heap.size ≤ q → A q) (hK : va_K g vwCl (Ty cy) s) (hX : Cx A s s.heap) (hY : Cy s) (hXs : va_X b L xs s s.heap) (hbl : b < s.heap.size) (hbA : ¬ A b) (hL : L ≤ 260)
    {x a tr s0 s1 x1 a1 t1 u1 v1 : Nat → Nat} {pa p1 : Nat → Nat → Nat} {tn x0 : Nat} {q r : Sc} {σ : Nat → Nat} {Hh : Nat → Nat → Nat} {n : Nat} {K : Nat → Nat → Nat} {fl : Nat → Bool} {tx : Nat → Nat} {ln : Nat} {H : Heap} {locs : List Loc} {ls : Array Slot} (htn : tn ≤ 36) (hI : fI (99 * 0) q σ Hh n K fl tx ln) (hJ : fI (99 * 0) r σ Hh n K fl tx ln) (hV : INV σ Hh n K fl) (hP : va_P g vwCl (fQ cy x a tr s0 s1 pa q σ n fl tx ln ++ fQ cy x1 a1 t1 u1 v1 p1 r σ n fl tx ln) H) (hD : va_D A (fQ cy x a tr s0 s1 pa q σ n fl tx ln ++ fQ cy x1 a1 t1 u1 v1 p1 r σ n fl tx ln)) (hS : va_S A s.heap H locs) (hl : lv_has ls 9 [(0, .ref b), (1, .ref (x 0)), (2, .ref (x1 0)), (3, .int (nI tn)), (4, .int (nI x0)), (5, .int (nI 1)), (6, .int (nI 0))]) (fin : ∀ (k : Nat) (H : Heap) (locs : List Loc) (ls : Array Slot), k ≤ 36 → va_S A s.heap H locs → lv_has ls 9 [] → W pX l eX room_1 s mX #[Value.ref b] below meth cX H locs (3000 + 2200 * k) (6 * (3000 + 2200 * k)) QX (F0 mX 289 ls [.int (nI 1)])) :
    W pX l eX room_1 s mX #[Value.ref b] below meth cX H locs 3000 18000 QX (F0 mX 137 ls []) := by
  have hl : lv_has ls 9 [(0, .ref b), (1, .ref (x 0)), (2, .ref (x1 0)), (3, .int (nI tn)), (4, .int (nI x0)), (5, .int (nI 1)), (6, .int (nI 0))] := hl
  refine W.widen (k := 3000 + 2200 * 0) (n := 6 * (3000 + 2200 * 0)) (by omega) (by omega) ?_
  refine lp_ac (fc := fun x9 => 3000 + 2200 * x9.1) (fs := fun x9 => 6 * (3000 + 2200 * x9.1)) (σ := (Nat) × (Nat → Nat) × (Nat → Nat → Nat) × (Nat) × (Nat → Nat → Nat) × (Nat → Bool) × Sc × Sc) (fun x9 H9 locs9 ls9 => va_P g vwCl (fQ cy x a tr s0 s1 pa x9.2.2.2.2.2.2.1 x9.2.1 x9.2.2.2.1 x9.2.2.2.2.2.1 tx ln ++ fQ cy x1 a1 t1 u1 v1 p1 x9.2.2.2.2.2.2.2 x9.2.1 x9.2.2.2.1 x9.2.2.2.2.2.1 tx ln) H9 ∧ va_D A (fQ cy x a tr s0 s1 pa x9.2.2.2.2.2.2.1 x9.2.1 x9.2.2.2.1 x9.2.2.2.2.2.1 tx ln ++ fQ cy x1 a1 t1 u1 v1 p1 x9.2.2.2.2.2.2.2 x9.2.1 x9.2.2.2.1 x9.2.2.2.2.2.1 tx ln) ∧ va_S A s.heap H9 locs9 ∧ fI (99 * x9.1) x9.2.2.2.2.2.2.1 x9.2.1 x9.2.2.1 x9.2.2.2.1 x9.2.2.2.2.1 x9.2.2.2.2.2.1 tx ln ∧ fI (99 * x9.1) x9.2.2.2.2.2.2.2 x9.2.1 x9.2.2.1 x9.2.2.2.1 x9.2.2.2.2.1 x9.2.2.2.2.2.1 tx ln ∧ lv_has ls9 9 [(0, .ref b), (1, .ref (x 0)), (2, .ref (x1 0)), (3, .int (nI tn)), (4, .int (nI x0)), (5, .int (nI 1)), (6, .int (nI x9.1))] ∧ (x9.1 ≤ tn) ∧ (INV x9.2.1 x9.2.2.1 x9.2.2.2.1 x9.2.2.2.2.1 x9.2.2.2.2.2.1)) (fun x9 => tn - x9.1) (0, σ, Hh, n, K, fl, q, r) ⟨hP, hD, hS, hI, hJ, lv_sub hl [0, 1, 2, 3, 4, 5, 6] rfl, (Nat.zero_le _), hV⟩ ?_
  rintro ⟨k, σ, Hh, n, K, fl, q, r⟩ H locs ls ⟨hP, hD, hS, hI, hJ, hl, hk, hV⟩ ih137
  dsimp only at hP hD hl hI hJ hk hV ih137 ⊢
  refine lv_iload hx hb dL_law_137 (lv_at hl 6 rfl) ?_
  refine lv_iload_n hx hb dL_law_139 rfl (lv_at hl 3 rfl) ?_
  refine lv_icmp_ge (tgt := 287) hx hb dL_law_140 (by decide) (fun c_140 => ?_) (fun c_140 => ?_)
  · have c_140 := (nc_le (by omega) (by omega) c_140)
    refine lv_iload hx hb dL_law_287 (lv_at hl 5 rfl) ?_
    exact fin k H locs ls (by omega) hS (lv_sub hl [] rfl)
  · have c_140 := (nc_nle (by omega) (by omega) c_140)
    refine lv_iload hx hb dL_law_143 (lv_at hl 5 rfl) ?_
    refine lv_if_eq (tgt := 287) hx hb dL_law_145 (by decide) (fun c9 => absurd c9 (by decide)) (fun _ => ?_)
    have hn14 := fI_n hI
    have hW := fI_wf hI
    have h1 := hV.2.1
    obtain ⟨v, hvc⟩ : ∃ v, cl L xs (2 + k) = v := ⟨_, rfl⟩
    have hv9 : v < 2 ^ 31 := by rw [← hvc]; exact cl_lt
    refine lv_aload_n hx hb dL_law_148 rfl (lv_at hl 0 rfl) ?_
    refine lv_iconst (v := (nI 2)) hx hb dL_law_149 (by decide) ?_
    refine lv_iload hx hb dL_law_150 (lv_at hl 6 rfl) ?_
    refine lv_iadd hx hb dL_law_152 ?_
    refine ti (nI_add 2 k) ?_
    refine rd_call (va_runS (As := [.ref b, .int (nI (2 + k))]) (rest := []) ⟨hx, hb, hml, hown, hts⟩ (c_L_cell l b L (2 + k) xs (by omega) hL) ⟨(cB 2 hts wd5_15 wd5_14 wd5_12 rfl rfl (by decide +kernel) ⟨Nat.le_of_ble_eq_true rfl, Nat.le_of_ble_eq_true rfl⟩), hts _ wd5_13⟩ (psX hXs hbl hbA hS) rfl rfl hl.1 rfl (lv_room (Nat.le_of_ble_eq_true rfl)) dL_law_153 ⟨by show _ ≤ 655753; omega, by show _ ≤ 7134438; omega⟩) ?_
    show W _ _ _ _ _ _ _ _ _ _ _ _ _ _ _ (F0 mX 156 ls [.int (nI (cl L xs (2 + k)))])
    refine ti (show (nI (cl L xs (2 + k))) = (nI v) from (congrArg nI hvc)) ?_
    refine lv_istore (lv' := [(7, .int (nI v)), (0, .ref b), (1, .ref (x 0)), (2, .ref (x1 0)), (3, .int (nI tn)), (4, .int (nI x0)), (5, .int (nI 1)), (6, .int (nI k))]) hx hb dL_law_156 hl (by decide) rfl (fun ls hl => ?_)
    refine lv_aload_n hx hb dL_law_158 rfl (lv_at hl 2 rfl) ?_
    refine lv_iload hx hb dL_law_159 (lv_at hl 0 rfl) ?_
    obtain ⟨hP, hD⟩ := sw_PD (L := []) (M := (fQ cy x a tr s0 s1 pa q σ n fl tx ln)) (T := (fQ cy x1 a1 t1 u1 v1 p1 r σ n fl tx ln)) hP hD
    refine wr_callS (pre := (fQ cy x1 a1 t1 u1 v1 p1 r σ n fl tx ln)) (wc := fQ cy x a tr s0 s1 pa q σ n fl tx ln) (va_runS (As := [.ref (x 0), .int (nI v)]) (rest := []) ⟨hx, hb, hml, hown, hts⟩ (c_L_act l hfl g cy x a tr s0 s1 pa H.size (99 * k) q σ Hh n K fl tx ln v hI (by omega) (by omega) (by omega)) ⟨(cB 2 hts wd9_7 wd5_14 wd9_5 rfl rfl (by decide +kernel) ⟨Nat.le_of_ble_eq_true rfl, Nat.le_of_ble_eq_true rfl⟩), hts _ wd9_6⟩ (ps2 (ws := (fQ cy x1 a1 t1 u1 v1 p1 r σ n fl tx ln) ++ fQ cy x a tr s0 s1 pa q σ n fl tx ln) hK hP hD hS hA hX hY _ nd_suffix at_suffix) rfl rfl hl.1 rfl (lv_room (Nat.le_of_ble_eq_true rfl)) dL_law_161 ⟨by show _ ≤ 655753; omega, by show _ ≤ 7134438; omega⟩) hP hD hS hA (fun _ => fQ_ad) (fun q H locs hI hP hD hS => ?_)
    obtain ⟨hP, hD⟩ := sw_PD (L := []) (M := (fQ cy x1 a1 t1 u1 v1 p1 r σ n fl tx ln)) (T := (fQ cy x a tr s0 s1 pa q ((acS v σ Hh n K fl).1) ((acS v σ Hh n K fl).2.2.1) ((acS v σ Hh n K fl).2.2.2.2) tx ln)) hP hD
    have hP : va_P g vwCl (fQ cy x a tr s0 s1 pa q ((acS v σ Hh n K fl).1) ((acS v σ Hh n K fl).2.2.1) ((acS v σ Hh n K fl).2.2.2.2) tx ln ++ fQ cy x1 a1 t1 u1 v1 p1 r σ n fl tx ln) H := hP
    have hD : va_D A (fQ cy x a tr s0 s1 pa q ((acS v σ Hh n K fl).1) ((acS v σ Hh n K fl).2.2.1) ((acS v σ Hh n K fl).2.2.2.2) tx ln ++ fQ cy x1 a1 t1 u1 v1 p1 r σ n fl tx ln) := hD
    show W _ _ _ _ _ _ _ _ _ _ _ _ _ _ _ (F0 mX 164 ls [.int (acV v σ n K fl)])
    refine lv_istore (lv' := [(8, .int (acV v σ n K fl)), (7, .int (nI v)), (0, .ref b), (1, .ref (x 0)), (2, .ref (x1 0)), (3, .int (nI tn)), (4, .int (nI x0)), (5, .int (nI 1)), (6, .int (nI k))]) hx hb dL_law_164 hl (by decide) rfl (fun ls hl => ?_)
    refine lv_aload_n hx hb dL_law_166 rfl (lv_at hl 4 rfl) ?_
    refine lv_iload hx hb dL_law_167 (lv_at hl 1 rfl) ?_
    refine lv_ldc hx hb hown (hts _ wd1_3) dL_law_169 ?_
    refine ti (show (100000 : Int32) = nI 100000 from by decide) ?_
    refine lv_irem hx hb dL_law_171 (nI_ne0 (by omega) (by omega)) ?_
    refine ti (pk_rem (a := v) (d := 100000) (by omega) (by omega) (by omega)) ?_
    refine wr_callS (pre := (fQ cy x a tr s0 s1 pa q ((acS v σ Hh n K fl).1) ((acS v σ Hh n K fl).2.2.1) ((acS v σ Hh n K fl).2.2.2.2) tx ln)) (wc := fQ cy x1 a1 t1 u1 v1 p1 r σ n fl tx ln) (va_runS (As := [.ref (x1 0), .int (nI (v % 100000))]) (rest := []) ⟨hx, hb, hml, hown, hts⟩ (c_L_refuses l hfl g cy x1 a1 t1 u1 v1 p1 H.size (99 * k) r σ Hh n K fl tx ln (v % 100000) hJ (by omega) (by omega) (by omega)) ⟨(cB 2 hts wd26_9 wd5_14 wd26_7 rfl rfl (by decide +kernel) ⟨Nat.le_of_ble_eq_true rfl, Nat.le_of_ble_eq_true rfl⟩), hts _ wd26_8⟩ (ps2 (ws := (fQ cy x a tr s0 s1 pa q ((acS v σ Hh n K fl).1) ((acS v σ Hh n K fl).2.2.1) ((acS v σ Hh n K fl).2.2.2.2) tx ln) ++ fQ cy x1 a1 t1 u1 v1 p1 r σ n fl tx ln) hK hP hD hS hA hX hY _ nd_suffix at_suffix) rfl rfl hl.1 rfl (lv_room (Nat.le_of_ble_eq_true rfl)) dL_law_172 ⟨by show _ ≤ 655753; omega, by show _ ≤ 7134438; omega⟩) hP hD hS hA (fun _ => fQ_ad) (fun r H locs hJ hP hD hS => ?_)
    have hP : va_P g vwCl (fQ cy x a tr s0 s1 pa q ((acS v σ Hh n K fl).1) ((acS v σ Hh n K fl).2.2.1) ((acS v σ Hh n K fl).2.2.2.2) tx ln ++ fQ cy x1 a1 t1 u1 v1 p1 r σ n fl tx ln) H := hP
    have hD : va_D A (fQ cy x a tr s0 s1 pa q ((acS v σ Hh n K fl).1) ((acS v σ Hh n K fl).2.2.1) ((acS v σ Hh n K fl).2.2.2.2) tx ln ++ fQ cy x1 a1 t1 u1 v1 p1 r σ n fl tx ln) := hD
    show W _ _ _ _ _ _ _ _ _ _ _ _ _ _ _ (F0 mX 175 ls [.int (bI true)])
    refine lv_if_eq (tgt := 278) hx hb dL_law_175 (by decide) (fun c_175 => ?_) (fun c_175 => ?_)
    · have c_175 := (bI_eq0.mp c_175)
      exact Bool.noConfusion c_175
    · have c_175 := (bI_ne0.mp c_175)
      refine lv_aload_n hx hb dL_law_178 rfl (lv_at hl 4 rfl) ?_
      refine lv_iload hx hb dL_law_179 (lv_at hl 1 rfl) ?_
      refine wr_callS (pre := (fQ cy x a tr s0 s1 pa q ((acS v σ Hh n K fl).1) ((acS v σ Hh n K fl).2.2.1) ((acS v σ Hh n K fl).2.2.2.2) tx ln)) (wc := fQ cy x1 a1 t1 u1 v1 p1 r σ n fl tx ln) (va_runS (As := [.ref (x1 0), .int (nI v)]) (rest := []) ⟨hx, hb, hml, hown, hts⟩ (c_L_act l hfl g cy x1 a1 t1 u1 v1 p1 H.size (99 * k) r σ Hh n K fl tx ln v hJ (by omega) (by omega) (by omega)) ⟨(cB 2 hts wd9_7 wd5_14 wd9_5 rfl rfl (by decide +kernel) ⟨Nat.le_of_ble_eq_true rfl, Nat.le_of_ble_eq_true rfl⟩), hts _ wd9_6⟩ (ps2 (ws := (fQ cy x a tr s0 s1 pa q ((acS v σ Hh n K fl).1) ((acS v σ Hh n K fl).2.2.1) ((acS v σ Hh n K fl).2.2.2.2) tx ln) ++ fQ cy x1 a1 t1 u1 v1 p1 r σ n fl tx ln) hK hP hD hS hA hX hY _ nd_suffix at_suffix) rfl rfl hl.1 rfl (lv_room (Nat.le_of_ble_eq_true rfl)) dL_law_181 ⟨by show _ ≤ 655753; omega, by show _ ≤ 7134438; omega⟩) hP hD hS hA (fun _ => fQ_ad) (fun r H locs hJ hP hD hS => ?_)
      have hP : va_P g vwCl (fQ cy x a tr s0 s1 pa q ((acS v σ Hh n K fl).1) ((acS v σ Hh n K fl).2.2.1) ((acS v σ Hh n K fl).2.2.2.2) tx ln ++ fQ cy x1 a1 t1 u1 v1 p1 r ((acS v σ Hh n K fl).1) ((acS v σ Hh n K fl).2.2.1) ((acS v σ Hh n K fl).2.2.2.2) tx ln) H := hP
      have hD : va_D A (fQ cy x a tr s0 s1 pa q ((acS v σ Hh n K fl).1) ((acS v σ Hh n K fl).2.2.1) ((acS v σ Hh n K fl).2.2.2.2) tx ln ++ fQ cy x1 a1 t1 u1 v1 p1 r ((acS v σ Hh n K fl).1) ((acS v σ Hh n K fl).2.2.1) ((acS v σ Hh n K fl).2.2.2.2) tx ln) := hD
      show W _ _ _ _ _ _ _ _ _ _ _ _ _ _ _ (F0 mX 184 ls [.int (acV v σ n K fl)])
      refine lv_iload hx hb dL_law_184 (lv_at hl 0 rfl) ?_
      refine lv_icmp_ne (tgt := 278) hx hb dL_law_186 (by decide) (fun c_186 => absurd rfl c_186) (fun _ => ?_)
      have hV := INV_ac (v := v) hW hV hn14
      generalize acS v σ Hh n K fl = s9 at hI hJ hP hD hV
      obtain ⟨σ, Hh, n, K, fl⟩ := s9
      have hl := lv_sub hl [2, 3, 4, 5, 6, 7, 8, 1] rfl
      have hl : lv_has ls 9 [(0, .ref b), (1, .ref (x 0)), (2, .ref (x1 0)), (3, .int (nI tn)), (4, .int (nI x0)), (5, .int (nI 1)), (6, .int (nI k)), (7, .int (nI v))] := hl
      dsimp only at hI hJ hP hD hV
      have hP : va_P g vwCl (fQ cy x a tr s0 s1 pa q σ n fl tx ln ++ fQ cy x1 a1 t1 u1 v1 p1 r σ n fl tx ln) H := hP
      have hD : va_D A (fQ cy x a tr s0 s1 pa q σ n fl tx ln ++ fQ cy x1 a1 t1 u1 v1 p1 r σ n fl tx ln) := hD
      have h1 := hV.2.1
      have hn14 := fI_n hI
      refine lv_aload_n hx hb dL_law_189 rfl (lv_at hl 2 rfl) ?_
      refine lv_iload hx hb dL_law_190 (lv_at hl 7 rfl) ?_
      refine lv_sipush (v := (nI 1000)) hx hb dL_law_192 (by decide) ?_
      refine lv_irem hx hb dL_law_195 (nI_ne0 (by omega) (by omega)) ?_
      refine ti (pk_rem (a := v) (d := 1000) (by omega) (by omega) (by omega)) ?_
      refine wr_callS (pre := (fQ cy x a tr s0 s1 pa q σ n fl tx ln)) (wc := fQ cy x1 a1 t1 u1 v1 p1 r σ n fl tx ln) (va_runS (As := [.ref (x1 0), .int (nI (v % 1000))]) (rest := []) ⟨hx, hb, hml, hown, hts⟩ (c_L_refuses l hfl g cy x1 a1 t1 u1 v1 p1 H.size (99 * k + 99) r σ Hh n K fl tx ln (v % 1000) hJ (by omega) (by omega) (by omega)) ⟨(cB 2 hts wd26_9 wd5_14 wd26_7 rfl rfl (by decide +kernel) ⟨Nat.le_of_ble_eq_true rfl, Nat.le_of_ble_eq_true rfl⟩), hts _ wd26_8⟩ (ps2 (ws := (fQ cy x a tr s0 s1 pa q σ n fl tx ln) ++ fQ cy x1 a1 t1 u1 v1 p1 r σ n fl tx ln) hK hP hD hS hA hX hY _ nd_suffix at_suffix) rfl rfl hl.1 rfl (lv_room (Nat.le_of_ble_eq_true rfl)) dL_law_196 ⟨by show _ ≤ 655753; omega, by show _ ≤ 7134438; omega⟩) hP hD hS hA (fun _ => fQ_ad) (fun r H locs hJ hP hD hS => ?_)
      have hP : va_P g vwCl (fQ cy x a tr s0 s1 pa q σ n fl tx ln ++ fQ cy x1 a1 t1 u1 v1 p1 r σ n fl tx ln) H := hP
      have hD : va_D A (fQ cy x a tr s0 s1 pa q σ n fl tx ln ++ fQ cy x1 a1 t1 u1 v1 p1 r σ n fl tx ln) := hD
      show W _ _ _ _ _ _ _ _ _ _ _ _ _ _ _ (F0 mX 199 ls [.int (bI true)])
      refine lv_if_eq (tgt := 278) hx hb dL_law_199 (by decide) (fun c_199 => ?_) (fun c_199 => ?_)
      · have c_199 := (bI_eq0.mp c_199)
        exact Bool.noConfusion c_199
      · have c_199 := (bI_ne0.mp c_199)
        refine lv_aload_n hx hb dL_law_202 rfl (lv_at hl 1 rfl) ?_
        refine lv_aload_n hx hb dL_law_203 rfl (lv_at hl 2 rfl) ?_
        refine lv_iload hx hb dL_law_204 (lv_at hl 7 rfl) ?_
        refine lv_sipush (v := (nI 5000)) hx hb dL_law_206 (by decide) ?_
        refine lv_irem hx hb dL_law_209 (nI_ne0 (by omega) (by omega)) ?_
        refine ti (pk_rem (a := v) (d := 5000) (by omega) (by omega) (by omega)) ?_
        refine wr_callS (pre := []) (wc := fQ cy x a tr s0 s1 pa q σ n fl tx ln ++ fQ cy x1 a1 t1 u1 v1 p1 r σ n fl tx ln) (va_runS (As := [.ref (x 0), .ref (x1 0), .int (nI (v % 5000))]) (rest := []) ⟨hx, hb, hml, hown, hts⟩ (c_L_alike l hfl g cy x a tr s0 s1 pa x1 a1 t1 u1 v1 p1 H.size (99 * k + 99) q r σ Hh n K fl tx ln (v % 5000) hI hJ (by omega) (by omega)) ⟨(cB 3 hts wd28_22 wd5_14 wd28_20 rfl rfl (by decide +kernel) ⟨Nat.le_of_ble_eq_true rfl, Nat.le_of_ble_eq_true rfl⟩), hts _ wd28_21⟩ (ps2 (ws := [] ++ (fQ cy x a tr s0 s1 pa q σ n fl tx ln ++ fQ cy x1 a1 t1 u1 v1 p1 r σ n fl tx ln)) hK hP hD hS hA hX hY _ nd_suffix at_suffix) rfl rfl hl.1 rfl (lv_room (Nat.le_of_ble_eq_true rfl)) dL_law_210 ⟨by show _ ≤ 655753; omega, by show _ ≤ 7134438; omega⟩) hP hD hS hA (fun _ => fQ_ad2) (fun u9 H locs hu9 hP hD hS => ?_)
        obtain ⟨q, r⟩ := u9
        obtain ⟨hI, hJ⟩ := hu9
        have hP : va_P g vwCl (fQ cy x a tr s0 s1 pa q σ n fl tx ln ++ fQ cy x1 a1 t1 u1 v1 p1 r σ n fl tx ln) H := hP
        have hD : va_D A (fQ cy x a tr s0 s1 pa q σ n fl tx ln ++ fQ cy x1 a1 t1 u1 v1 p1 r σ n fl tx ln) := hD
        have hI : fI (99 * k + 99) q σ Hh n K fl tx ln := hI
        have hJ : fI (99 * k + 99) r σ Hh n K fl tx ln := hJ
        show W _ _ _ _ _ _ _ _ _ _ _ _ _ _ _ (F0 mX 213 ls [.int (bI true)])
        refine lv_if_eq (tgt := 278) hx hb dL_law_213 (by decide) (fun c_213 => ?_) (fun c_213 => ?_)
        · have c_213 := (bI_eq0.mp c_213)
          exact Bool.noConfusion c_213
        · have c_213 := (bI_ne0.mp c_213)
          refine lv_iload hx hb dL_law_216 (lv_at hl 6 rfl) ?_
          refine lv_iconst (v := (nI 2)) hx hb dL_law_218 (by decide) ?_
          refine lv_irem hx hb dL_law_219 (nI_ne0 (by omega) (by omega)) ?_
          refine ti (pk_rem (a := k) (d := 2) (by omega) (by omega) (by omega)) ?_
          refine lv_if_ne (tgt := 237) hx hb dL_law_220 (by decide) (fun c_220 => ?_) (fun c_220 => ?_)
          · have c_220 := (nz_ne c_220 (by omega))
            refine lv_aload_n hx hb dL_law_237 rfl (lv_at hl 2 rfl) ?_
            refine lv_iload hx hb dL_law_238 (lv_at hl 7 rfl) ?_
            refine lv_iconst (v := (nI 3)) hx hb dL_law_240 (by decide) ?_
            refine lv_idiv hx hb dL_law_241 (nI_ne0 (by omega) (by omega)) ?_
            refine ti (pk_div (a := v) (d := 3) (by omega) (by omega) (by omega)) ?_
            refine wr_callS (pre := (fQ cy x a tr s0 s1 pa q σ n fl tx ln)) (wc := fQ cy x1 a1 t1 u1 v1 p1 r σ n fl tx ln) (va_runS (As := [.ref (x1 0), .int (nI (v / 3))]) (rest := []) ⟨hx, hb, hml, hown, hts⟩ (c_L_holds l hfl g cy x1 a1 t1 u1 v1 p1 H.size (99 * k + 99) r σ Hh n K fl tx ln (v / 3) hJ (by omega) hV.1) ⟨(cB 2 hts wd29_18 wd5_14 wd29_16 rfl rfl (by decide +kernel) ⟨Nat.le_of_ble_eq_true rfl, Nat.le_of_ble_eq_true rfl⟩), hts _ wd29_17⟩ (ps2 (ws := (fQ cy x a tr s0 s1 pa q σ n fl tx ln) ++ fQ cy x1 a1 t1 u1 v1 p1 r σ n fl tx ln) hK hP hD hS hA hX hY _ nd_suffix at_suffix) rfl rfl hl.1 rfl (lv_room (Nat.le_of_ble_eq_true rfl)) dL_law_242 ⟨by show _ ≤ 655753; omega, by show _ ≤ 7134438; omega⟩) hP hD hS hA (fun _ => fQ_ad) (fun r H locs hJ hP hD hS => ?_)
            have hP : va_P g vwCl (fQ cy x a tr s0 s1 pa q σ n fl tx ln ++ fQ cy x1 a1 t1 u1 v1 p1 r σ n fl tx ln) H := hP
            have hD : va_D A (fQ cy x a tr s0 s1 pa q σ n fl tx ln ++ fQ cy x1 a1 t1 u1 v1 p1 r σ n fl tx ln) := hD
            show W _ _ _ _ _ _ _ _ _ _ _ _ _ _ _ (F0 mX 245 ls [.int (bI true)])
            refine lv_if_eq (tgt := 278) hx hb dL_law_245 (by decide) (fun c_245 => ?_) (fun c_245 => ?_)
            · have c_245 := (bI_eq0.mp c_245)
              exact Bool.noConfusion c_245
            · have c_245 := (bI_ne0.mp c_245)
              refine lv_aload_n hx hb dL_law_248 rfl (lv_at hl 1 rfl) ?_
              refine lv_aload_n hx hb dL_law_249 rfl (lv_at hl 2 rfl) ?_
              refine lv_iload hx hb dL_law_250 (lv_at hl 7 rfl) ?_
              refine lv_bipush (v := (nI 7)) hx hb dL_law_252 (by decide) ?_
              refine lv_idiv hx hb dL_law_254 (nI_ne0 (by omega) (by omega)) ?_
              refine ti (pk_div (a := v) (d := 7) (by omega) (by omega) (by omega)) ?_
              refine wr_callS (pre := []) (wc := fQ cy x a tr s0 s1 pa q σ n fl tx ln ++ fQ cy x1 a1 t1 u1 v1 p1 r σ n fl tx ln) (va_runS (As := [.ref (x 0), .ref (x1 0), .int (nI (v / 7))]) (rest := []) ⟨hx, hb, hml, hown, hts⟩ (c_L_sees l hfl g cy x a tr s0 s1 pa x1 a1 t1 u1 v1 p1 H.size (99 * k + 99) q r σ Hh n K fl tx ln (v / 7) hI hJ (by omega) hV) ⟨(cB 3 hts wd29_21 wd5_14 wd29_19 rfl rfl (by decide +kernel) ⟨Nat.le_of_ble_eq_true rfl, Nat.le_of_ble_eq_true rfl⟩), hts _ wd29_20⟩ (ps2 (ws := [] ++ (fQ cy x a tr s0 s1 pa q σ n fl tx ln ++ fQ cy x1 a1 t1 u1 v1 p1 r σ n fl tx ln)) hK hP hD hS hA hX hY _ nd_suffix at_suffix) rfl rfl hl.1 rfl (lv_room (Nat.le_of_ble_eq_true rfl)) dL_law_255 ⟨by show _ ≤ 655753; omega, by show _ ≤ 7134438; omega⟩) hP hD hS hA (fun _ => fQ_ad2) (fun u9 H locs hu9 hP hD hS => ?_)
              obtain ⟨q, r, Hh, n⟩ := u9
              obtain ⟨hI, hJ, hV⟩ := hu9
              have hP : va_P g vwCl (fQ cy x a tr s0 s1 pa q σ n fl tx ln ++ fQ cy x1 a1 t1 u1 v1 p1 r σ n fl tx ln) H := hP
              have hD : va_D A (fQ cy x a tr s0 s1 pa q σ n fl tx ln ++ fQ cy x1 a1 t1 u1 v1 p1 r σ n fl tx ln) := hD
              have hI : fI (99 * k + 99) q σ Hh n K fl tx ln := hI
              have hJ : fI (99 * k + 99) r σ Hh n K fl tx ln := hJ
              have hV : INV σ Hh n K fl := hV
              have hn14 := fI_n hI
              show W _ _ _ _ _ _ _ _ _ _ _ _ _ _ _ (F0 mX 258 ls [.int (bI true)])
              refine lv_if_eq (tgt := 278) hx hb dL_law_258 (by decide) (fun c_258 => ?_) (fun c_258 => ?_)
              · have c_258 := (bI_eq0.mp c_258)
                exact Bool.noConfusion c_258
              · have c_258 := (bI_ne0.mp c_258)
                refine lv_aload_n hx hb dL_law_261 rfl (lv_at hl 1 rfl) ?_
                refine lv_aload_n hx hb dL_law_262 rfl (lv_at hl 2 rfl) ?_
                refine lv_iload hx hb dL_law_263 (lv_at hl 7 rfl) ?_
                refine lv_bipush (v := (nI 11)) hx hb dL_law_265 (by decide) ?_
                refine lv_idiv hx hb dL_law_267 (nI_ne0 (by omega) (by omega)) ?_
                refine ti (pk_div (a := v) (d := 11) (by omega) (by omega) (by omega)) ?_
                refine wr_callS (pre := []) (wc := fQ cy x a tr s0 s1 pa q σ n fl tx ln ++ fQ cy x1 a1 t1 u1 v1 p1 r σ n fl tx ln) (va_runS (As := [.ref (x 0), .ref (x1 0), .int (nI (v / 11))]) (rest := []) ⟨hx, hb, hml, hown, hts⟩ (c_L_found l hfl g cy x a tr s0 s1 pa x1 a1 t1 u1 v1 p1 H.size (99 * k + 99) q r σ Hh n K fl tx ln (v / 11) hI hJ (by omega) hV) ⟨(cB 3 hts wd30_3 wd5_14 wd30_1 rfl rfl (by decide +kernel) ⟨Nat.le_of_ble_eq_true rfl, Nat.le_of_ble_eq_true rfl⟩), hts _ wd30_2⟩ (ps2 (ws := [] ++ (fQ cy x a tr s0 s1 pa q σ n fl tx ln ++ fQ cy x1 a1 t1 u1 v1 p1 r σ n fl tx ln)) hK hP hD hS hA hX hY _ nd_suffix at_suffix) rfl rfl hl.1 rfl (lv_room (Nat.le_of_ble_eq_true rfl)) dL_law_268 ⟨by show _ ≤ 655753; omega, by show _ ≤ 7134438; omega⟩) hP hD hS hA (fun _ => fQ_ad2) (fun u9 H locs hu9 hP hD hS => ?_)
                obtain ⟨q, r, Hh, n⟩ := u9
                obtain ⟨hI, hJ, hV⟩ := hu9
                have hP : va_P g vwCl (fQ cy x a tr s0 s1 pa q σ n fl tx ln ++ fQ cy x1 a1 t1 u1 v1 p1 r σ n fl tx ln) H := hP
                have hD : va_D A (fQ cy x a tr s0 s1 pa q σ n fl tx ln ++ fQ cy x1 a1 t1 u1 v1 p1 r σ n fl tx ln) := hD
                have hI : fI (99 * k + 99) q σ Hh n K fl tx ln := hI
                have hJ : fI (99 * k + 99) r σ Hh n K fl tx ln := hJ
                have hV : INV σ Hh n K fl := hV
                have hn14 := fI_n hI
                show W _ _ _ _ _ _ _ _ _ _ _ _ _ _ _ (F0 mX 271 ls [.int (bI true)])
                refine lv_if_eq (tgt := 278) hx hb dL_law_271 (by decide) (fun c_271 => ?_) (fun c_271 => ?_)
                · have c_271 := (bI_eq0.mp c_271)
                  exact Bool.noConfusion c_271
                · have c_271 := (bI_ne0.mp c_271)
                  refine lv_iconst (v := (nI 1)) hx hb dL_law_274 (by decide) ?_
                  refine lv_goto (tgt := 279) hx hb dL_law_275 (by decide) ?_
                  refine lv_istore (lv' := [(5, .int (nI 1)), (0, .ref b), (1, .ref (x 0)), (2, .ref (x1 0)), (3, .int (nI tn)), (4, .int (nI x0)), (6, .int (nI k)), (7, .int (nI v))]) hx hb dL_law_279 hl (by decide) rfl (fun ls hl => ?_)
                  refine lv_iinc (v := (nI (k + 1))) (lv' := [(6, .int (nI (k + 1))), (5, .int (nI 1)), (0, .ref b), (1, .ref (x 0)), (2, .ref (x1 0)), (3, .int (nI tn)), (4, .int (nI x0)), (7, .int (nI v))]) hx hb dL_law_281 hl (k := 6) rfl (nI_add k 1) (by decide) rfl (fun ls hl => ?_)
                  refine lv_goto (tgt := 137) hx hb dL_law_284 (by decide) ?_
                  refine W.widen (k := 3000 + 2200 * (k + 1)) (n := 6 * (3000 + 2200 * (k + 1))) (by omega) (by omega) ?_
                  exact ih137 (k + 1, σ, Hh, n, K, fl, q, r) H locs ls ⟨hP, hD, hS, hI, hJ, lv_sub hl [2, 3, 4, 5, 6, 1, 0] rfl, (by dsimp only; omega), hV⟩ (by dsimp only; omega)
          · have c_220 := (nz_eq c_220 (by omega))
            refine lv_aload_n hx hb dL_law_223 rfl (lv_at hl 1 rfl) ?_
            refine lv_iload hx hb dL_law_224 (lv_at hl 7 rfl) ?_
            refine lv_iconst (v := (nI 3)) hx hb dL_law_226 (by decide) ?_
            refine lv_idiv hx hb dL_law_227 (nI_ne0 (by omega) (by omega)) ?_
            refine ti (pk_div (a := v) (d := 3) (by omega) (by omega) (by omega)) ?_
            obtain ⟨hP, hD⟩ := sw_PD (L := []) (M := (fQ cy x a tr s0 s1 pa q σ n fl tx ln)) (T := (fQ cy x1 a1 t1 u1 v1 p1 r σ n fl tx ln)) hP hD
            refine wr_callS (pre := (fQ cy x1 a1 t1 u1 v1 p1 r σ n fl tx ln)) (wc := fQ cy x a tr s0 s1 pa q σ n fl tx ln) (va_runS (As := [.ref (x 0), .int (nI (v / 3))]) (rest := []) ⟨hx, hb, hml, hown, hts⟩ (c_L_holds l hfl g cy x a tr s0 s1 pa H.size (99 * k + 99) q σ Hh n K fl tx ln (v / 3) hI (by omega) hV.1) ⟨(cB 2 hts wd29_18 wd5_14 wd29_16 rfl rfl (by decide +kernel) ⟨Nat.le_of_ble_eq_true rfl, Nat.le_of_ble_eq_true rfl⟩), hts _ wd29_17⟩ (ps2 (ws := (fQ cy x1 a1 t1 u1 v1 p1 r σ n fl tx ln) ++ fQ cy x a tr s0 s1 pa q σ n fl tx ln) hK hP hD hS hA hX hY _ nd_suffix at_suffix) rfl rfl hl.1 rfl (lv_room (Nat.le_of_ble_eq_true rfl)) dL_law_228 ⟨by show _ ≤ 655753; omega, by show _ ≤ 7134438; omega⟩) hP hD hS hA (fun _ => fQ_ad) (fun q H locs hI hP hD hS => ?_)
            obtain ⟨hP, hD⟩ := sw_PD (L := []) (M := (fQ cy x1 a1 t1 u1 v1 p1 r σ n fl tx ln)) (T := (fQ cy x a tr s0 s1 pa q σ n fl tx ln)) hP hD
            have hP : va_P g vwCl (fQ cy x a tr s0 s1 pa q σ n fl tx ln ++ fQ cy x1 a1 t1 u1 v1 p1 r σ n fl tx ln) H := hP
            have hD : va_D A (fQ cy x a tr s0 s1 pa q σ n fl tx ln ++ fQ cy x1 a1 t1 u1 v1 p1 r σ n fl tx ln) := hD
            show W _ _ _ _ _ _ _ _ _ _ _ _ _ _ _ (F0 mX 231 ls [.int (bI true)])
            refine lv_if_eq (tgt := 278) hx hb dL_law_231 (by decide) (fun c_231 => ?_) (fun c_231 => ?_)
            · have c_231 := (bI_eq0.mp c_231)
              exact Bool.noConfusion c_231
            · have c_231 := (bI_ne0.mp c_231)
              refine lv_goto (tgt := 248) hx hb dL_law_234 (by decide) ?_
              refine lv_aload_n hx hb dL_law_248 rfl (lv_at hl 1 rfl) ?_
              refine lv_aload_n hx hb dL_law_249 rfl (lv_at hl 2 rfl) ?_
              refine lv_iload hx hb dL_law_250 (lv_at hl 7 rfl) ?_
              refine lv_bipush (v := (nI 7)) hx hb dL_law_252 (by decide) ?_
              refine lv_idiv hx hb dL_law_254 (nI_ne0 (by omega) (by omega)) ?_
              refine ti (pk_div (a := v) (d := 7) (by omega) (by omega) (by omega)) ?_
              refine wr_callS (pre := []) (wc := fQ cy x a tr s0 s1 pa q σ n fl tx ln ++ fQ cy x1 a1 t1 u1 v1 p1 r σ n fl tx ln) (va_runS (As := [.ref (x 0), .ref (x1 0), .int (nI (v / 7))]) (rest := []) ⟨hx, hb, hml, hown, hts⟩ (c_L_sees l hfl g cy x a tr s0 s1 pa x1 a1 t1 u1 v1 p1 H.size (99 * k + 99) q r σ Hh n K fl tx ln (v / 7) hI hJ (by omega) hV) ⟨(cB 3 hts wd29_21 wd5_14 wd29_19 rfl rfl (by decide +kernel) ⟨Nat.le_of_ble_eq_true rfl, Nat.le_of_ble_eq_true rfl⟩), hts _ wd29_20⟩ (ps2 (ws := [] ++ (fQ cy x a tr s0 s1 pa q σ n fl tx ln ++ fQ cy x1 a1 t1 u1 v1 p1 r σ n fl tx ln)) hK hP hD hS hA hX hY _ nd_suffix at_suffix) rfl rfl hl.1 rfl (lv_room (Nat.le_of_ble_eq_true rfl)) dL_law_255 ⟨by show _ ≤ 655753; omega, by show _ ≤ 7134438; omega⟩) hP hD hS hA (fun _ => fQ_ad2) (fun u9 H locs hu9 hP hD hS => ?_)
              obtain ⟨q, r, Hh, n⟩ := u9
              obtain ⟨hI, hJ, hV⟩ := hu9
              have hP : va_P g vwCl (fQ cy x a tr s0 s1 pa q σ n fl tx ln ++ fQ cy x1 a1 t1 u1 v1 p1 r σ n fl tx ln) H := hP
              have hD : va_D A (fQ cy x a tr s0 s1 pa q σ n fl tx ln ++ fQ cy x1 a1 t1 u1 v1 p1 r σ n fl tx ln) := hD
              have hI : fI (99 * k + 99) q σ Hh n K fl tx ln := hI
              have hJ : fI (99 * k + 99) r σ Hh n K fl tx ln := hJ
              have hV : INV σ Hh n K fl := hV
              have hn14 := fI_n hI
              show W _ _ _ _ _ _ _ _ _ _ _ _ _ _ _ (F0 mX 258 ls [.int (bI true)])
              refine lv_if_eq (tgt := 278) hx hb dL_law_258 (by decide) (fun c_258 => ?_) (fun c_258 => ?_)
              · have c_258 := (bI_eq0.mp c_258)
                exact Bool.noConfusion c_258
              · have c_258 := (bI_ne0.mp c_258)
                refine lv_aload_n hx hb dL_law_261 rfl (lv_at hl 1 rfl) ?_
                refine lv_aload_n hx hb dL_law_262 rfl (lv_at hl 2 rfl) ?_
                refine lv_iload hx hb dL_law_263 (lv_at hl 7 rfl) ?_
                refine lv_bipush (v := (nI 11)) hx hb dL_law_265 (by decide) ?_
                refine lv_idiv hx hb dL_law_267 (nI_ne0 (by omega) (by omega)) ?_
                refine ti (pk_div (a := v) (d := 11) (by omega) (by omega) (by omega)) ?_
                refine wr_callS (pre := []) (wc := fQ cy x a tr s0 s1 pa q σ n fl tx ln ++ fQ cy x1 a1 t1 u1 v1 p1 r σ n fl tx ln) (va_runS (As := [.ref (x 0), .ref (x1 0), .int (nI (v / 11))]) (rest := []) ⟨hx, hb, hml, hown, hts⟩ (c_L_found l hfl g cy x a tr s0 s1 pa x1 a1 t1 u1 v1 p1 H.size (99 * k + 99) q r σ Hh n K fl tx ln (v / 11) hI hJ (by omega) hV) ⟨(cB 3 hts wd30_3 wd5_14 wd30_1 rfl rfl (by decide +kernel) ⟨Nat.le_of_ble_eq_true rfl, Nat.le_of_ble_eq_true rfl⟩), hts _ wd30_2⟩ (ps2 (ws := [] ++ (fQ cy x a tr s0 s1 pa q σ n fl tx ln ++ fQ cy x1 a1 t1 u1 v1 p1 r σ n fl tx ln)) hK hP hD hS hA hX hY _ nd_suffix at_suffix) rfl rfl hl.1 rfl (lv_room (Nat.le_of_ble_eq_true rfl)) dL_law_268 ⟨by show _ ≤ 655753; omega, by show _ ≤ 7134438; omega⟩) hP hD hS hA (fun _ => fQ_ad2) (fun u9 H locs hu9 hP hD hS => ?_)
                obtain ⟨q, r, Hh, n⟩ := u9
                obtain ⟨hI, hJ, hV⟩ := hu9
                have hP : va_P g vwCl (fQ cy x a tr s0 s1 pa q σ n fl tx ln ++ fQ cy x1 a1 t1 u1 v1 p1 r σ n fl tx ln) H := hP
                have hD : va_D A (fQ cy x a tr s0 s1 pa q σ n fl tx ln ++ fQ cy x1 a1 t1 u1 v1 p1 r σ n fl tx ln) := hD
                have hI : fI (99 * k + 99) q σ Hh n K fl tx ln := hI
                have hJ : fI (99 * k + 99) r σ Hh n K fl tx ln := hJ
                have hV : INV σ Hh n K fl := hV
                have hn14 := fI_n hI
                show W _ _ _ _ _ _ _ _ _ _ _ _ _ _ _ (F0 mX 271 ls [.int (bI true)])
                refine lv_if_eq (tgt := 278) hx hb dL_law_271 (by decide) (fun c_271 => ?_) (fun c_271 => ?_)
                · have c_271 := (bI_eq0.mp c_271)
                  exact Bool.noConfusion c_271
                · have c_271 := (bI_ne0.mp c_271)
                  refine lv_iconst (v := (nI 1)) hx hb dL_law_274 (by decide) ?_
                  refine lv_goto (tgt := 279) hx hb dL_law_275 (by decide) ?_
                  refine lv_istore (lv' := [(5, .int (nI 1)), (0, .ref b), (1, .ref (x 0)), (2, .ref (x1 0)), (3, .int (nI tn)), (4, .int (nI x0)), (6, .int (nI k)), (7, .int (nI v))]) hx hb dL_law_279 hl (by decide) rfl (fun ls hl => ?_)
                  refine lv_iinc (v := (nI (k + 1))) (lv' := [(6, .int (nI (k + 1))), (5, .int (nI 1)), (0, .ref b), (1, .ref (x 0)), (2, .ref (x1 0)), (3, .int (nI tn)), (4, .int (nI x0)), (7, .int (nI v))]) hx hb dL_law_281 hl (k := 6) rfl (nI_add k 1) (by decide) rfl (fun ls hl => ?_)
                  refine lv_goto (tgt := 137) hx hb dL_law_284 (by decide) ?_
                  refine W.widen (k := 3000 + 2200 * (k + 1)) (n := 6 * (3000 + 2200 * (k + 1))) (by omega) (by omega) ?_
                  exact ih137 (k + 1, σ, Hh, n, K, fl, q, r) H locs ls ⟨hP, hD, hS, hI, hJ, lv_sub hl [2, 3, 4, 5, 6, 1, 0] rfl, (by dsimp only; omega), hV⟩ (by dsimp only; omega)
set_option maxHeartbeats 4000000 in
set_option maxRecDepth 100000 in
theorem lw_begin {pX : Program} {l : Launch} {eX : Env} {s : State} {mX : MethodId} {below : List Frame} {meth : Method} {cX : Code} {b L : Nat} {xs : Nat → Int32} {QX : State → Prop} {A : Nat → Prop} (hfl : l.stackTraces = false) (g : va_G) (cy : Nat → ClassId) (hx : pX.tables.exec = Jvm.exec) (hb : cX.code = cL_law) (hml : cX.maxLocals = 9) (hown : s.vm.findClass RL = some mX.cls) (hts : ∀ w ∈ wsL_law, w.before #[Value.ref b] s = true) (hA : ∀ q : Nat, s.heap.size ≤ q → A q) (hK : va_K g vwCl (Ty cy) s) (hX : Cx A s s.heap) (hY : Cy s) (hXs : va_X b L xs s s.heap) (hbl : b < s.heap.size) (hbA : ¬ A b) (hL : L ≤ 260) (hAO : va_AO RX0 s) {ls : Array Slot} (hP : va_P g vwCl [] s.heap) (hD : va_D A []) (hl : lv_has ls 9 [(0, .ref b)])
    (fin : ∀ (k : Nat) (H : Heap) (locs : List Loc) (ls : Array Slot), k ≤ 36 → va_S A s.heap H locs → lv_has ls 9 [] → W pX l eX room_1 s mX #[Value.ref b] below meth cX H locs (3000 + 2200 * k) (6 * (3000 + 2200 * k)) QX (F0 mX 289 ls [.int (nI 1)])) :
    W pX l eX room_1 s mX #[Value.ref b] below meth cX s.heap [] 0 0 QX (F0 mX 0 ls []) := by
  have hS : va_S A s.heap s.heap [] := va_S.rf
  refine va_new (ci := 5) (fs := [.null, .null, .null, .null, .null, .null]) (C := RX7) (T := TX7) (N := 6) hx hb hts bgX7 tyX7 tyX7_ok hown (hts _ wd1_0) (hts _ wd1_1) (hts _ wd1_2) hK hP hD hS hA rfl (fun j hj => by rcases (show j = 0 ∨ j = 1 ∨ j = 2 ∨ j = 3 ∨ j = 4 ∨ j = 5 by omega) with rfl | rfl | rfl | rfl | rfl | rfl <;> rfl) (Nat.le_of_ble_eq_true rfl) (Nat.le_of_ble_eq_true rfl) dL_law_0 (fun q0 H hP hD hS => ?_)
  have hP : va_P g vwCl ([] ++ [(q0, .inr (5, [.null, .null, .null, .null, .null, .null]))]) H := hP
  have hD : va_D A ([] ++ [(q0, .inr (5, [.null, .null, .null, .null, .null, .null]))]) := hD
  refine lv_dup hx hb dL_law_3 rfl ?_
  refine cn_call (ws := []) (va_runI (As := []) (rest := [.ref q0]) ⟨hx, hb, hml, hown, hts⟩ (c_X7_init l g cy q0 H.size  ) ⟨cB 0 hts wd1_6 wd1_2 wd1_4 rfl rfl (by decide +kernel) ⟨Nat.le_of_ble_eq_true rfl, Nat.le_of_ble_eq_true rfl⟩, rfl, hts _ wd1_5⟩ (pnA (ws := []) hAO hK hP hD hS hA hX) rfl rfl hl.1 rfl (lv_room (Nat.le_of_ble_eq_true rfl)) dL_law_4 ⟨Nat.le_of_ble_eq_true rfl, Nat.le_of_ble_eq_true rfl⟩) hP hD hS hA ?_
  rintro ⟨x, a, tr, s0, s1, pa, b1⟩ H locs ha9 hP8 hD8 hS8
  have ha9 : x 0 = q0 := ha9
  subst ha9
  have hS := hS8
  have hP : va_P g vwCl (fQ cy x a tr s0 s1 pa (b1, bd0, 0, (fun _ => bd0), bd0, bd0, 0, 0, z9, 0) newS 0 (fun _ => false) z9 0) H := hP8
  have hD : va_D A (fQ cy x a tr s0 s1 pa (b1, bd0, 0, (fun _ => bd0), bd0, bd0, 0, 0, z9, 0) newS 0 (fun _ => false) z9 0) := hD8
  refine lv_astore_n (lv' := [(1, .ref (x 0)), (0, .ref b)]) hx hb dL_law_7 rfl hl (by decide) rfl (fun ls hl => ?_)
  refine va_new (ci := 5) (fs := [.null, .null, .null, .null, .null, .null]) (C := RX7) (T := TX7) (N := 6) hx hb hts bgX7 tyX7 tyX7_ok hown (hts _ wd1_0) (hts _ wd1_1) (hts _ wd1_2) hK hP hD hS hA rfl (fun j hj => by rcases (show j = 0 ∨ j = 1 ∨ j = 2 ∨ j = 3 ∨ j = 4 ∨ j = 5 by omega) with rfl | rfl | rfl | rfl | rfl | rfl <;> rfl) (Nat.le_of_ble_eq_true rfl) (Nat.le_of_ble_eq_true rfl) dL_law_8 (fun q8 H hP hD hS => ?_)
  have hP : va_P g vwCl ((fQ cy x a tr s0 s1 pa (b1, bd0, 0, (fun _ => bd0), bd0, bd0, 0, 0, z9, 0) newS 0 (fun _ => false) z9 0) ++ [(q8, .inr (5, [.null, .null, .null, .null, .null, .null]))]) H := hP
  have hD : va_D A ((fQ cy x a tr s0 s1 pa (b1, bd0, 0, (fun _ => bd0), bd0, bd0, 0, 0, z9, 0) newS 0 (fun _ => false) z9 0) ++ [(q8, .inr (5, [.null, .null, .null, .null, .null, .null]))]) := hD
  refine lv_dup hx hb dL_law_11 rfl ?_
  refine cn_call (ws := (fQ cy x a tr s0 s1 pa (b1, bd0, 0, (fun _ => bd0), bd0, bd0, 0, 0, z9, 0) newS 0 (fun _ => false) z9 0)) (va_runI (As := []) (rest := [.ref q8]) ⟨hx, hb, hml, hown, hts⟩ (c_X7_init l g cy q8 H.size  ) ⟨cB 0 hts wd1_6 wd1_2 wd1_4 rfl rfl (by decide +kernel) ⟨Nat.le_of_ble_eq_true rfl, Nat.le_of_ble_eq_true rfl⟩, rfl, hts _ wd1_5⟩ (pnA (ws := (fQ cy x a tr s0 s1 pa (b1, bd0, 0, (fun _ => bd0), bd0, bd0, 0, 0, z9, 0) newS 0 (fun _ => false) z9 0)) hAO hK hP hD hS hA hX) rfl rfl hl.1 rfl (lv_room (Nat.le_of_ble_eq_true rfl)) dL_law_12 ⟨Nat.le_of_ble_eq_true rfl, Nat.le_of_ble_eq_true rfl⟩) hP hD hS hA ?_
  rintro ⟨x1, a1, t1, u1, v1, p1, b2⟩ H locs ha9 hP8 hD8 hS8
  have ha9 : x1 0 = q8 := ha9
  subst ha9
  have hS := hS8
  have hP : va_P g vwCl ((fQ cy x a tr s0 s1 pa (b1, bd0, 0, (fun _ => bd0), bd0, bd0, 0, 0, z9, 0) newS 0 (fun _ => false) z9 0) ++ (fQ cy x1 a1 t1 u1 v1 p1 (b2, bd0, 0, (fun _ => bd0), bd0, bd0, 0, 0, z9, 0) newS 0 (fun _ => false) z9 0)) H := hP8
  have hD : va_D A ((fQ cy x a tr s0 s1 pa (b1, bd0, 0, (fun _ => bd0), bd0, bd0, 0, 0, z9, 0) newS 0 (fun _ => false) z9 0) ++ (fQ cy x1 a1 t1 u1 v1 p1 (b2, bd0, 0, (fun _ => bd0), bd0, bd0, 0, 0, z9, 0) newS 0 (fun _ => false) z9 0)) := hD8
  refine lv_astore_n (lv' := [(2, .ref (x1 0)), (1, .ref (x 0)), (0, .ref b)]) hx hb dL_law_15 rfl hl (by decide) rfl (fun ls hl => ?_)
  obtain ⟨q, hq9⟩ : ∃ q : Sc, q = (b1, bd0, 0, (fun _ => bd0), bd0, bd0, 0, 0, z9, 0) := ⟨_, rfl⟩
  obtain ⟨r, hr9⟩ : ∃ r : Sc, r = (b2, bd0, 0, (fun _ => bd0), bd0, bd0, 0, 0, z9, 0) := ⟨_, rfl⟩
  rw [← hq9, ← hr9] at hP hD
  have hI : fI 0 q newS (fun _ _ => 0) 0 (fun _ _ => 0) (fun _ => false) z9 0 := by rw [hq9]; exact fI_new
  have hJ : fI 0 r newS (fun _ _ => 0) 0 (fun _ _ => 0) (fun _ => false) z9 0 := by rw [hr9]; exact fI_new
  clear hq9 hr9
  obtain ⟨t0, ht0⟩ : ∃ t0, cl L xs 0 = t0 := ⟨_, rfl⟩
  obtain ⟨x0, hx0⟩ : ∃ x0, cl L xs 1 = x0 := ⟨_, rfl⟩
  have ht9 : t0 < 2 ^ 31 := by rw [← ht0]; exact cl_lt
  have hx9 : x0 < 2 ^ 31 := by rw [← hx0]; exact cl_lt
  have hP : va_P g vwCl (fQ cy x a tr s0 s1 pa q newS 0 (fun _ => false) z9 0 ++ fQ cy x1 a1 t1 u1 v1 p1 r newS 0 (fun _ => false) z9 0) H := hP
  have hD : va_D A (fQ cy x a tr s0 s1 pa q newS 0 (fun _ => false) z9 0 ++ fQ cy x1 a1 t1 u1 v1 p1 r newS 0 (fun _ => false) z9 0) := hD
  refine lv_bipush (v := (nI 14)) hx hb dL_law_16 (by decide) ?_
  refine lv_aload_n hx hb dL_law_18 rfl (lv_at hl 2 rfl) ?_
  refine lv_iconst (v := (nI 0)) hx hb dL_law_19 (by decide) ?_
  refine rd_call (va_runS (As := [.ref b, .int (nI 0)]) (rest := [.int (nI 14)]) ⟨hx, hb, hml, hown, hts⟩ (c_L_cell l b L 0 xs (by omega) hL) ⟨(cB 2 hts wd5_15 wd5_14 wd5_12 rfl rfl (by decide +kernel) ⟨Nat.le_of_ble_eq_true rfl, Nat.le_of_ble_eq_true rfl⟩), hts _ wd5_13⟩ (psX hXs hbl hbA hS) rfl rfl hl.1 rfl (lv_room (Nat.le_of_ble_eq_true rfl)) dL_law_20 ⟨by show _ ≤ 655753; omega, by show _ ≤ 7134438; omega⟩) ?_
  show W _ _ _ _ _ _ _ _ _ _ _ _ _ _ _ (F0 mX 23 ls [.int (nI (cl L xs 0)), .int (nI 14)])
  refine ti (show (nI (cl L xs 0)) = (nI t0) from (congrArg nI ht0)) ?_
  refine lv_bipush (v := (nI 23)) hx hb dL_law_23 (by decide) ?_
  refine lv_irem hx hb dL_law_25 (nI_ne0 (by omega) (by omega)) ?_
  refine ti (pk_rem (a := t0) (d := 23) (by omega) (by omega) (by omega)) ?_
  refine lv_iadd hx hb dL_law_26 ?_
  refine ti (nI_add 14 (t0 % 23)) ?_
  refine lv_istore_n (lv' := [(3, .int (nI (14 + (t0 % 23)))), (2, .ref (x1 0)), (1, .ref (x 0)), (0, .ref b)]) hx hb dL_law_27 rfl hl (by decide) rfl (fun ls hl => ?_)
  refine lv_aload_n hx hb dL_law_28 rfl (lv_at hl 3 rfl) ?_
  refine lv_iconst (v := (nI 1)) hx hb dL_law_29 (by decide) ?_
  refine rd_call (va_runS (As := [.ref b, .int (nI 1)]) (rest := []) ⟨hx, hb, hml, hown, hts⟩ (c_L_cell l b L 1 xs (by omega) hL) ⟨(cB 2 hts wd5_15 wd5_14 wd5_12 rfl rfl (by decide +kernel) ⟨Nat.le_of_ble_eq_true rfl, Nat.le_of_ble_eq_true rfl⟩), hts _ wd5_13⟩ (psX hXs hbl hbA hS) rfl rfl hl.1 rfl (lv_room (Nat.le_of_ble_eq_true rfl)) dL_law_30 ⟨by show _ ≤ 655753; omega, by show _ ≤ 7134438; omega⟩) ?_
  show W _ _ _ _ _ _ _ _ _ _ _ _ _ _ _ (F0 mX 33 ls [.int (nI (cl L xs 1))])
  refine ti (show (nI (cl L xs 1)) = (nI x0) from (congrArg nI hx0)) ?_
  refine lv_istore (lv' := [(4, .int (nI x0)), (3, .int (nI (14 + (t0 % 23)))), (2, .ref (x1 0)), (1, .ref (x 0)), (0, .ref b)]) hx hb dL_law_33 hl (by decide) rfl (fun ls hl => ?_)
  refine lv_aload_n hx hb dL_law_35 rfl (lv_at hl 3 rfl) ?_
  refine lv_iconst (v := (nI 1)) hx hb dL_law_36 (by decide) ?_
  refine lv_iload hx hb dL_law_37 (lv_at hl 0 rfl) ?_
  refine lv_sipush (v := (nI 255)) hx hb dL_law_39 (by decide) ?_
  refine lv_irem hx hb dL_law_42 (nI_ne0 (by omega) (by omega)) ?_
  refine ti (pk_rem (a := x0) (d := 255) (by omega) (by omega) (by omega)) ?_
  refine lv_iadd hx hb dL_law_43 ?_
  refine ti (nI_add 1 (x0 % 255)) ?_
  refine lv_iconst (v := (nI 1)) hx hb dL_law_44 (by decide) ?_
  refine lv_iload hx hb dL_law_45 (lv_at hl 0 rfl) ?_
  refine lv_sipush (v := (nI 255)) hx hb dL_law_47 (by decide) ?_
  refine lv_idiv hx hb dL_law_50 (nI_ne0 (by omega) (by omega)) ?_
  refine ti (pk_div (a := x0) (d := 255) (by omega) (by omega) (by omega)) ?_
  refine lv_iconst (v := (nI 3)) hx hb dL_law_51 (by decide) ?_
  refine lv_irem hx hb dL_law_52 (nI_ne0 (by omega) (by omega)) ?_
  refine ti (pk_rem (a := (x0 / 255)) (d := 3) (by omega) (by omega) (by omega)) ?_
  refine lv_iadd hx hb dL_law_53 ?_
  refine ti (nI_add 1 ((x0 / 255) % 3)) ?_
  refine lv_iload hx hb dL_law_54 (lv_at hl 0 rfl) ?_
  refine lv_sipush (v := (nI 765)) hx hb dL_law_56 (by decide) ?_
  refine lv_idiv hx hb dL_law_59 (nI_ne0 (by omega) (by omega)) ?_
  refine ti (pk_div (a := x0) (d := 765) (by omega) (by omega) (by omega)) ?_
  refine lv_bipush (v := (nI 12)) hx hb dL_law_60 (by decide) ?_
  refine lv_irem hx hb dL_law_62 (nI_ne0 (by omega) (by omega)) ?_
  refine ti (pk_rem (a := (x0 / 765)) (d := 12) (by omega) (by omega) (by omega)) ?_
  refine lv_iconst (v := (nI 1)) hx hb dL_law_63 (by decide) ?_
  refine lv_iload hx hb dL_law_64 (lv_at hl 0 rfl) ?_
  refine lv_sipush (v := (nI 9180)) hx hb dL_law_66 (by decide) ?_
  refine lv_idiv hx hb dL_law_69 (nI_ne0 (by omega) (by omega)) ?_
  refine ti (pk_div (a := x0) (d := 9180) (by omega) (by omega) (by omega)) ?_
  refine lv_sipush (v := (nI 500)) hx hb dL_law_70 (by decide) ?_
  refine lv_irem hx hb dL_law_73 (nI_ne0 (by omega) (by omega)) ?_
  refine ti (pk_rem (a := (x0 / 9180)) (d := 500) (by omega) (by omega) (by omega)) ?_
  refine lv_iadd hx hb dL_law_74 ?_
  refine ti (nI_add 1 ((x0 / 9180) % 500)) ?_
  obtain ⟨hP, hD⟩ := sw_PD (L := []) (M := (fQ cy x a tr s0 s1 pa q newS 0 (fun _ => false) z9 0)) (T := (fQ cy x1 a1 t1 u1 v1 p1 r newS 0 (fun _ => false) z9 0)) hP hD
  refine wr_callS (pre := (fQ cy x1 a1 t1 u1 v1 p1 r newS 0 (fun _ => false) z9 0)) (wc := fQ cy x a tr s0 s1 pa q newS 0 (fun _ => false) z9 0) (vx_runSW (hh := [(0, 9, 10, 13), (0, 9, 15, 16), (0, 9, 20, 19)]) (As := [.ref (x 0), .int (nI (1 + (x0 % 255))), .int (nI (1 + ((x0 / 255) % 3))), .int (nI ((x0 / 765) % 12)), .int (nI (1 + ((x0 / 9180) % 500)))]) (rest := []) ⟨hx, hb, hml, hown, hts⟩ (c_L_loses l hfl g cy x a tr s0 s1 pa H.size 0 q newS (fun _ _ => 0) 0 (fun _ _ => 0) (fun _ => false) z9 0 (nI (1 + (x0 % 255))) (nI (1 + ((x0 / 255) % 3))) (nI ((x0 / 765) % 12)) (nI (1 + ((x0 / 9180) % 500))) hI ) (vx_cwSW 5 hts (hl_in wd5_20 wd5_14 wd5_18 wd5_19) rfl rfl rfl (by decide +kernel) ⟨Nat.le_of_ble_eq_true rfl, Nat.le_of_ble_eq_true rfl⟩) (ps2 (ws := (fQ cy x1 a1 t1 u1 v1 p1 r newS 0 (fun _ => false) z9 0) ++ fQ cy x a tr s0 s1 pa q newS 0 (fun _ => false) z9 0) hK hP hD hS hA hX hY _ nd_suffix at_suffix) rfl rfl hl.1 rfl (lv_room (Nat.le_of_ble_eq_true rfl)) dL_law_75 ⟨by show _ ≤ 655753; omega, by show _ ≤ 7134438; omega⟩) hP hD hS hA (fun _ => fQ_ad) (fun q H locs hI hP hD hS => ?_)
  have h9 : fLose newS (nI (1 + (x0 % 255))) (nI (1 + ((x0 / 255) % 3))) (nI ((x0 / 765) % 12)) (nI (1 + ((x0 / 9180) % 500))) = 0 := (by rw [fLose_in (by omega) (by omega) (by omega) (by omega) (by omega) (by omega) (by omega), if_neg (by decide)])
  simp only [if_pos h9] at hI hP hD
  rw [show loseR newS (nI (1 + (x0 % 255))) (nI (1 + ((x0 / 255) % 3))) (nI ((x0 / 765) % 12)) (nI (1 + ((x0 / 9180) % 500))) = loseS newS (1 + x0 % 255) (1 + (x0 / 255) % 3) ((x0 / 765) % 12) (1 + (x0 / 9180) % 500) from (loseR_0 (by omega) (by omega) (by omega) (by omega) h9)] at hI hP hD
  obtain ⟨hP, hD⟩ := sw_PD (L := []) (M := (fQ cy x1 a1 t1 u1 v1 p1 r newS 0 (fun _ => false) z9 0)) (T := (fQ cy x a tr s0 s1 pa q (loseS newS (1 + x0 % 255) (1 + (x0 / 255) % 3) ((x0 / 765) % 12) (1 + (x0 / 9180) % 500)) (hiN 0) (fun _ => false) z9 0)) hP hD
  have hP : va_P g vwCl (fQ cy x a tr s0 s1 pa q (loseS newS (1 + x0 % 255) (1 + (x0 / 255) % 3) ((x0 / 765) % 12) (1 + (x0 / 9180) % 500)) (hiN 0) (fun _ => false) z9 0 ++ fQ cy x1 a1 t1 u1 v1 p1 r newS 0 (fun _ => false) z9 0) H := hP
  have hD : va_D A (fQ cy x a tr s0 s1 pa q (loseS newS (1 + x0 % 255) (1 + (x0 / 255) % 3) ((x0 / 765) % 12) (1 + (x0 / 9180) % 500)) (hiN 0) (fun _ => false) z9 0 ++ fQ cy x1 a1 t1 u1 v1 p1 r newS 0 (fun _ => false) z9 0) := hD
  refine ti (show an (fLose newS (nI (1 + (x0 % 255))) (nI (1 + ((x0 / 255) % 3))) (nI ((x0 / 765) % 12)) (nI (1 + ((x0 / 9180) % 500)))) (nI (newS 0)) = (nI (newS 0)) from (an_0 h9)) ?_
  show W _ _ _ _ _ _ _ _ _ _ _ _ _ _ _ (F0 mX 78 ls [.int (nI (newS 0))])
  refine ti (show (nI (newS 0)) = (nI 0) from rfl) ?_
  refine lv_if_ne (tgt := 131) hx hb dL_law_78 (by decide) (fun c_78 => ?_) (fun c_78 => ?_)
  · have c_78 := (nz_ne c_78 (by omega))
    omega
  · have c_78 := (nz_eq c_78 (by omega))
    refine lv_aload_n hx hb dL_law_81 rfl (lv_at hl 2 rfl) ?_
    refine lv_iconst (v := (nI 1)) hx hb dL_law_82 (by decide) ?_
    refine lv_iload hx hb dL_law_83 (lv_at hl 0 rfl) ?_
    refine lv_sipush (v := (nI 255)) hx hb dL_law_85 (by decide) ?_
    refine lv_irem hx hb dL_law_88 (nI_ne0 (by omega) (by omega)) ?_
    refine ti (pk_rem (a := x0) (d := 255) (by omega) (by omega) (by omega)) ?_
    refine lv_iadd hx hb dL_law_89 ?_
    refine ti (nI_add 1 (x0 % 255)) ?_
    refine lv_iconst (v := (nI 1)) hx hb dL_law_90 (by decide) ?_
    refine lv_iload hx hb dL_law_91 (lv_at hl 0 rfl) ?_
    refine lv_sipush (v := (nI 255)) hx hb dL_law_93 (by decide) ?_
    refine lv_idiv hx hb dL_law_96 (nI_ne0 (by omega) (by omega)) ?_
    refine ti (pk_div (a := x0) (d := 255) (by omega) (by omega) (by omega)) ?_
    refine lv_iconst (v := (nI 3)) hx hb dL_law_97 (by decide) ?_
    refine lv_irem hx hb dL_law_98 (nI_ne0 (by omega) (by omega)) ?_
    refine ti (pk_rem (a := (x0 / 255)) (d := 3) (by omega) (by omega) (by omega)) ?_
    refine lv_iadd hx hb dL_law_99 ?_
    refine ti (nI_add 1 ((x0 / 255) % 3)) ?_
    refine lv_iload hx hb dL_law_100 (lv_at hl 0 rfl) ?_
    refine lv_sipush (v := (nI 765)) hx hb dL_law_102 (by decide) ?_
    refine lv_idiv hx hb dL_law_105 (nI_ne0 (by omega) (by omega)) ?_
    refine ti (pk_div (a := x0) (d := 765) (by omega) (by omega) (by omega)) ?_
    refine lv_bipush (v := (nI 12)) hx hb dL_law_106 (by decide) ?_
    refine lv_irem hx hb dL_law_108 (nI_ne0 (by omega) (by omega)) ?_
    refine ti (pk_rem (a := (x0 / 765)) (d := 12) (by omega) (by omega) (by omega)) ?_
    refine lv_iconst (v := (nI 1)) hx hb dL_law_109 (by decide) ?_
    refine lv_iload hx hb dL_law_110 (lv_at hl 0 rfl) ?_
    refine lv_sipush (v := (nI 9180)) hx hb dL_law_112 (by decide) ?_
    refine lv_idiv hx hb dL_law_115 (nI_ne0 (by omega) (by omega)) ?_
    refine ti (pk_div (a := x0) (d := 9180) (by omega) (by omega) (by omega)) ?_
    refine lv_sipush (v := (nI 500)) hx hb dL_law_116 (by decide) ?_
    refine lv_irem hx hb dL_law_119 (nI_ne0 (by omega) (by omega)) ?_
    refine ti (pk_rem (a := (x0 / 9180)) (d := 500) (by omega) (by omega) (by omega)) ?_
    refine lv_iadd hx hb dL_law_120 ?_
    refine ti (nI_add 1 ((x0 / 9180) % 500)) ?_
    refine wr_callS (pre := (fQ cy x a tr s0 s1 pa q (loseS newS (1 + x0 % 255) (1 + (x0 / 255) % 3) ((x0 / 765) % 12) (1 + (x0 / 9180) % 500)) (hiN 0) (fun _ => false) z9 0)) (wc := fQ cy x1 a1 t1 u1 v1 p1 r newS 0 (fun _ => false) z9 0) (vx_runSW (hh := [(0, 9, 10, 13), (0, 9, 15, 16), (0, 9, 20, 19)]) (As := [.ref (x1 0), .int (nI (1 + (x0 % 255))), .int (nI (1 + ((x0 / 255) % 3))), .int (nI ((x0 / 765) % 12)), .int (nI (1 + ((x0 / 9180) % 500)))]) (rest := []) ⟨hx, hb, hml, hown, hts⟩ (c_L_loses l hfl g cy x1 a1 t1 u1 v1 p1 H.size 0 r newS (fun _ _ => 0) 0 (fun _ _ => 0) (fun _ => false) z9 0 (nI (1 + (x0 % 255))) (nI (1 + ((x0 / 255) % 3))) (nI ((x0 / 765) % 12)) (nI (1 + ((x0 / 9180) % 500))) hJ ) (vx_cwSW 5 hts (hl_in wd5_20 wd5_14 wd5_18 wd5_19) rfl rfl rfl (by decide +kernel) ⟨Nat.le_of_ble_eq_true rfl, Nat.le_of_ble_eq_true rfl⟩) (ps2 (ws := (fQ cy x a tr s0 s1 pa q (loseS newS (1 + x0 % 255) (1 + (x0 / 255) % 3) ((x0 / 765) % 12) (1 + (x0 / 9180) % 500)) (hiN 0) (fun _ => false) z9 0) ++ fQ cy x1 a1 t1 u1 v1 p1 r newS 0 (fun _ => false) z9 0) hK hP hD hS hA hX hY _ nd_suffix at_suffix) rfl rfl hl.1 rfl (lv_room (Nat.le_of_ble_eq_true rfl)) dL_law_121 ⟨by show _ ≤ 655753; omega, by show _ ≤ 7134438; omega⟩) hP hD hS hA (fun _ => fQ_ad) (fun r H locs hJ hP hD hS => ?_)
    have h9 : fLose newS (nI (1 + (x0 % 255))) (nI (1 + ((x0 / 255) % 3))) (nI ((x0 / 765) % 12)) (nI (1 + ((x0 / 9180) % 500))) = 0 := (by rw [fLose_in (by omega) (by omega) (by omega) (by omega) (by omega) (by omega) (by omega), if_neg (by decide)])
    simp only [if_pos h9] at hJ hP hD
    rw [show loseR newS (nI (1 + (x0 % 255))) (nI (1 + ((x0 / 255) % 3))) (nI ((x0 / 765) % 12)) (nI (1 + ((x0 / 9180) % 500))) = loseS newS (1 + x0 % 255) (1 + (x0 / 255) % 3) ((x0 / 765) % 12) (1 + (x0 / 9180) % 500) from (loseR_0 (by omega) (by omega) (by omega) (by omega) h9)] at hJ hP hD
    have hP : va_P g vwCl (fQ cy x a tr s0 s1 pa q (loseS newS (1 + x0 % 255) (1 + (x0 / 255) % 3) ((x0 / 765) % 12) (1 + (x0 / 9180) % 500)) (hiN 0) (fun _ => false) z9 0 ++ fQ cy x1 a1 t1 u1 v1 p1 r (loseS newS (1 + x0 % 255) (1 + (x0 / 255) % 3) ((x0 / 765) % 12) (1 + (x0 / 9180) % 500)) (hiN 0) (fun _ => false) z9 0) H := hP
    have hD : va_D A (fQ cy x a tr s0 s1 pa q (loseS newS (1 + x0 % 255) (1 + (x0 / 255) % 3) ((x0 / 765) % 12) (1 + (x0 / 9180) % 500)) (hiN 0) (fun _ => false) z9 0 ++ fQ cy x1 a1 t1 u1 v1 p1 r (loseS newS (1 + x0 % 255) (1 + (x0 / 255) % 3) ((x0 / 765) % 12) (1 + (x0 / 9180) % 500)) (hiN 0) (fun _ => false) z9 0) := hD
    refine ti (show an (fLose newS (nI (1 + (x0 % 255))) (nI (1 + ((x0 / 255) % 3))) (nI ((x0 / 765) % 12)) (nI (1 + ((x0 / 9180) % 500)))) (nI (newS 0)) = (nI (newS 0)) from (an_0 h9)) ?_
    show W _ _ _ _ _ _ _ _ _ _ _ _ _ _ _ (F0 mX 124 ls [.int (nI (newS 0))])
    refine ti (show (nI (newS 0)) = (nI 0) from rfl) ?_
    refine lv_if_ne (tgt := 131) hx hb dL_law_124 (by decide) (fun c_124 => ?_) (fun c_124 => ?_)
    · have c_124 := (nz_ne c_124 (by omega))
      omega
    · have c_124 := (nz_eq c_124 (by omega))
      refine lv_iconst (v := (nI 1)) hx hb dL_law_127 (by decide) ?_
      refine lv_goto (tgt := 132) hx hb dL_law_128 (by decide) ?_
      refine lv_istore (lv' := [(5, .int (nI 1)), (4, .int (nI x0)), (3, .int (nI (14 + (t0 % 23)))), (2, .ref (x1 0)), (1, .ref (x 0)), (0, .ref b)]) hx hb dL_law_132 hl (by decide) rfl (fun ls hl => ?_)
      refine lv_iconst (v := (nI 0)) hx hb dL_law_134 (by decide) ?_
      refine lv_istore (lv' := [(6, .int (nI 0)), (5, .int (nI 1)), (4, .int (nI x0)), (3, .int (nI (14 + (t0 % 23)))), (2, .ref (x1 0)), (1, .ref (x 0)), (0, .ref b)]) hx hb dL_law_135 hl (by decide) rfl (fun ls hl => ?_)
      refine W.widen (k := 3000) (n := 18000) (Nat.le_of_ble_eq_true rfl) (Nat.le_of_ble_eq_true rfl) ?_
      exact lw_loop (tn := 14 + t0 % 23) (x0 := x0) hfl g cy hx hb hml hown hts hA hK hX hY hXs hbl hbA hL (by omega) hI hJ INV_0 hP hD hS (lv_sub hl [6, 5, 4, 3, 2, 1, 0] rfl) fin
