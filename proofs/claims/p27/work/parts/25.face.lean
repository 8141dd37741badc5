/-! THE FACE: exceptions, the whole object's cells, what holds between calls. -/
def exN (k : Nat) : String := if k = 1 then "java/lang/IndexOutOfBoundsException" else if k = 2 then "java/lang/IllegalArgumentException" else "java/lang/IllegalStateException"
/-- thrown by the fault k, nothing old was written -/
def xXC (k : Nat) : String → State → State → Prop := fun E st t => k ≠ 0 ∧ E = exN k ∧ va_F nF st t
theorem xX_mk {k j : Nat} {E : String} {s t : State} (h : k = j) (hj : j ≠ 0) (hE : E = exN j) (h1 : s.heap.size ≤ t.heap.size) (h2 : ∀ q : Nat, q < s.heap.size → t.heap[q]? = s.heap[q]?) : xXC k E s t := by
  subst h
  exact ⟨hj, hE, h1, fun q hq _ => h2 q hq⟩
theorem gdE0 : ∀ w ∈ Cond.classLink RX7 48 "java/lang/IllegalArgumentException" :: Cond.initialized "java/lang/IllegalArgumentException" :: vx_atS RX7 52 "java/lang/IllegalArgumentException" ["java/lang/RuntimeException", "java/lang/Exception"], vx_ot w = true := by decide +kernel
theorem gdE1 : ∀ w ∈ Cond.classLink RX7 59 "java/lang/IllegalStateException" :: Cond.initialized "java/lang/IllegalStateException" :: vx_atS RX7 63 "java/lang/IllegalStateException" ["java/lang/RuntimeException", "java/lang/Exception"], vx_ot w = true := by decide +kernel
theorem gdE2 : ∀ w ∈ Cond.classLink RX7 108 "java/lang/IndexOutOfBoundsException" :: Cond.initialized "java/lang/IndexOutOfBoundsException" :: vx_atS RX7 112 "java/lang/IndexOutOfBoundsException" ["java/lang/RuntimeException", "java/lang/Exception"], vx_ot w = true := by decide +kernel
theorem hatE0 {args : Array Value} {s : State} (hts : ∀ w ∈ wsL_law, w.before args s = true) (hc : va_Nw (.castable "java/lang/IllegalArgumentException" "java/lang/IllegalArgumentException") s) (h1 : va_Nw (.declares (Bundle.initS "java/lang/RuntimeException")) s) (h2 : va_Nw (.declares (Bundle.initS "java/lang/Exception")) s) (h3 : va_Nw (.declares (Bundle.initS Bundle.tN)) s) : ∀ w ∈ vx_atS RX7 52 "java/lang/IllegalArgumentException" ["java/lang/RuntimeException", "java/lang/Exception"], w.before args s = true := vx_hat (B := [.castable "java/lang/IllegalArgumentException" "java/lang/IllegalArgumentException", .declares (Bundle.initS "java/lang/RuntimeException"), .declares (Bundle.initS "java/lang/Exception"), .declares (Bundle.initS Bundle.tN)]) (fun w h => hts w (bgE1 w h)) (by decide +kernel) (vx_c (va_Nw.use rfl hc) (vx_c (va_Nw.use rfl h1) (vx_c (va_Nw.use rfl h2) (vx_c (va_Nw.use rfl h3) vx_n))))
theorem hatE1 {args : Array Value} {s : State} (hts : ∀ w ∈ wsL_law, w.before args s = true) (hc : va_Nw (.castable "java/lang/IllegalStateException" "java/lang/IllegalStateException") s) (h1 : va_Nw (.declares (Bundle.initS "java/lang/RuntimeException")) s) (h2 : va_Nw (.declares (Bundle.initS "java/lang/Exception")) s) (h3 : va_Nw (.declares (Bundle.initS Bundle.tN)) s) : ∀ w ∈ vx_atS RX7 63 "java/lang/IllegalStateException" ["java/lang/RuntimeException", "java/lang/Exception"], w.before args s = true := vx_hat (B := [.castable "java/lang/IllegalStateException" "java/lang/IllegalStateException", .declares (Bundle.initS "java/lang/RuntimeException"), .declares (Bundle.initS "java/lang/Exception"), .declares (Bundle.initS Bundle.tN)]) (fun w h => hts w (bgE2 w h)) (by decide +kernel) (vx_c (va_Nw.use rfl hc) (vx_c (va_Nw.use rfl h1) (vx_c (va_Nw.use rfl h2) (vx_c (va_Nw.use rfl h3) vx_n))))
theorem hatE2 {args : Array Value} {s : State} (hts : ∀ w ∈ wsL_law, w.before args s = true) (hc : va_Nw (.castable "java/lang/IndexOutOfBoundsException" "java/lang/IndexOutOfBoundsException") s) (h1 : va_Nw (.declares (Bundle.initS "java/lang/RuntimeException")) s) (h2 : va_Nw (.declares (Bundle.initS "java/lang/Exception")) s) (h3 : va_Nw (.declares (Bundle.initS Bundle.tN)) s) : ∀ w ∈ vx_atS RX7 112 "java/lang/IndexOutOfBoundsException" ["java/lang/RuntimeException", "java/lang/Exception"], w.before args s = true := vx_hat (B := [.castable "java/lang/IndexOutOfBoundsException" "java/lang/IndexOutOfBoundsException", .declares (Bundle.initS "java/lang/RuntimeException"), .declares (Bundle.initS "java/lang/Exception"), .declares (Bundle.initS Bundle.tN)]) (fun w h => hts w (bgE0 w h)) (by decide +kernel) (vx_c (va_Nw.use rfl hc) (vx_c (va_Nw.use rfl h1) (vx_c (va_Nw.use rfl h2) (vx_c (va_Nw.use rfl h3) vx_n))))
/-- which exceptions are of which classes -/
def Cy (U : State) : Prop := (∀ k, 1 ≤ k → k ≤ 3 → va_Nw (.castable (exN k) (exN k)) U) ∧ (∀ j k, 1 ≤ j → j ≤ 3 → 1 ≤ k → k ≤ 3 → j ≠ k → va_Nc (exN j) (exN k) U) ∧
  va_Nw (.declares (Bundle.initS "java/lang/RuntimeException")) U ∧ va_Nw (.declares (Bundle.initS "java/lang/Exception")) U ∧ va_Nw (.declares (Bundle.initS Bundle.tN)) U
theorem Cy.warm {s U : State} (hW : s.WarmedH U.vm) (h : Cy s) : Cy U := ⟨fun k h1 h2 => va_Nw.warmC hW (h.1 k h1 h2), fun j k h1 h2 h3 h4 h5 => va_Nc.moved hW.alike (h.2.1 j k h1 h2 h3 h4 h5), va_Nw.warmD hW h.2.2.1, va_Nw.warmD hW h.2.2.2.1, va_Nw.warmD hW h.2.2.2.2⟩
theorem Cy.same {U V : State} (hv : V.vm = U.vm) (h : Cy U) : Cy V := ⟨fun k h1 h2 => va_Nw.same rfl hv.symm (h.1 k h1 h2), fun j k h1 h2 h3 h4 h5 => va_Nc.moved (by rw [hv]; exact Vm.Alike.refl _) (h.2.1 j k h1 h2 h3 h4 h5), va_Nw.same rfl hv.symm h.2.2.1, va_Nw.same rfl hv.symm h.2.2.2.1, va_Nw.same rfl hv.symm h.2.2.2.2⟩
/-- a start of a method that throws -/
def pr2 (g : va_G) (cy : Nat → ClassId) (W : va_W) (sz : Nat) (U : State) : Prop := pr g cy W sz U ∧ Cy U
section P2
variable {p : Program} {l : Launch} {e : Env} {R : Room} {s : State} {m : MethodId} {args : Array Value} {below : List Frame} {meth : Method} {c : Code} {H : Heap} {locs : List Loc} {cells slots : Nat} {Q : State → Prop}
variable {g : va_G} {cy : Nat → ClassId} {ws wc : va_W} {A0 : Nat → Prop} {pc : Nat} {ls : Array Slot} {rest st0 : List Value} {a : Array Value}
theorem pr2_blind {av : List Value} {sz : Nat} : FrameBlind (va_Pc av (pr2 g cy ws sz)) := by
  intro a U f mk h
  obtain ⟨q0, q1, q2⟩ := h
  exact ⟨q0, (pr_blind (av := av) a U f mk ⟨q0, q1⟩).2, Cy.same (U := U) (V := U.calling f mk a) rfl q2⟩
theorem pv2 {b : Addr} {As : List Value} {C : String} {T : u_T} {N : Nat} {fs : List Value} (hK : va_K g vwCl (Ty cy) s) (hP : va_P g vwCl ws H) (hD : va_D A0 ws) (hS : va_S A0 s.heap H locs) (hA : ∀ q : Nat, s.heap.size ≤ q → A0 q) (hX : Cx A0 s s.heap) (hY : Cy s) (isC : List Nat) (hn : va_nd isC = true) (hC : isC.map (fun i => ws[i]?) = wc.map some)
    (ci q0 : Nat) (hc : vwCl[ci]? = some (C, T, N)) (he : ws[q0]? = some (b, .inr (ci, fs))) : PreV s H C b (va_Pc (.ref b :: As) (pr2 g cy wc H.size)) As :=
  ⟨pr2_blind, va_recv hK hP hc he, fun U hU hW => ⟨rfl, pr_call hK hP hD hS hA hX isC hn hC U hU hW, hY.warm hW⟩⟩
theorem ps2 {As : List Value} (hK : va_K g vwCl (Ty cy) s) (hP : va_P g vwCl ws H) (hD : va_D A0 ws) (hS : va_S A0 s.heap H locs) (hA : ∀ q : Nat, s.heap.size ≤ q → A0 q) (hX : Cx A0 s s.heap) (hY : Cy s) (isC : List Nat) (hn : va_nd isC = true) (hC : isC.map (fun i => ws[i]?) = wc.map some) :
    PreS s H (va_Pc As (pr2 g cy wc H.size)) As := ⟨pr2_blind, fun U hU hW => ⟨rfl, pr_call hK hP hD hS hA hX isC hn hC U hU hW, hY.warm hW⟩⟩
/-- behind a call that may throw, ahead of all writing; thrown, it goes on to the caller -/
theorem fx_call {k fx : Nat} {Qc : Array Value → State → Outcome → State → Prop} {A : Nat → Prop} (hfx : fx = k) (ht : ∀ x ∈ c.exceptionTable.toList, False) (hlocks : meth.locks = false)
    (hr : vx_Run p l e R s m args below meth c s.heap [] 0 0 1 6 (F0 m pc ls st0) rest (fun st oc t => k = 0 ∧ oc = .returned none ∧ t.heap = st.heap) (xXC k) nF)
    (kk : k = 0 → W p l e R s m args below meth c s.heap [] 1 6 (vx_MQ below Qc (xXC fx) args s 1 6 A) (F0 m (pc + 3) ls rest)) : W p l e R s m args below meth c s.heap [] 0 0 (vx_MQ below Qc (xXC fx) args s 1 6 A) (F0 m pc ls st0) := by
  intro T hT X
  rcases hr T hT X with ⟨v, st₀, t, T', L, h0, X', hL, e1, e2, ⟨hk, hv, hh⟩, st⟩ | ⟨q, st₀, t, T', L, E, ce, h0, X', hL, e1, e2, ⟨hk, hE, hF⟩, hce, hcv, hcl, st⟩
  · cases hv
    obtain ⟨t2, a1, b1⟩ := kk hk T' (by rw [e1, hh, h0]) (Stand.forget X' (fun q h => (hL q h).elim))
    exact ⟨t2, st t2 a1, b1⟩
  · obtain ⟨t2, a1, b1⟩ := vx_out (R := R) (H := T'.heap) (locs := []) (cells := 1) (slots := 6) (pc := pc) (ls := ls) (rest := rest) (Qc := Qc) (XC := xXC fx) (free := A) (mc := 1) (ms := 6) (args := args) (below := below) (fun x hx => (ht x hx).elim) hlocks (by rw [e1]; exact hce) hcv hcl
      (fun t3 h3 _ => by
        subst hfx
        refine ⟨hk, hE, ?_, fun z hz hn => ?_⟩
        · rw [h3, e1, ← h0]; exact hF.1
        · rw [h3, e1, hF.2 z (by rw [h0]; exact hz) hn, h0]) (fun z hz => by cases hz) (Nat.le_refl _) (Nat.le_refl _) T' rfl (Stand.forget X' (fun q h => (hL q h).elim))
    exact ⟨t2, st.trans a1, b1⟩
end P2
/-- a method's contract out of its walk, where it may throw -/
theorem mt_x {l : Launch} {g : va_G} {cy : Nat → ClassId} {y : MethodName} {rm : Room} {av : List Value} {W0 : va_W} {sz : Nat} {Qc : Array Value → State → Outcome → State → Prop} {XC : String → State → State → Prop} {mc ms : Nat} {free : Addr → Prop} {cc : ByteArray} {maxL : Nat} {ret : Option FieldType}
    (hy : plainName y.cls = true) (hlen : (lg_sl av).length ≤ maxL)
    (body : ∀ (p : Program) (e : Env) (s : State) (m : MethodId) (below : List Frame) (meth : Method) (c : Code) (ls : Array Slot) (A : Nat → Prop), p.tables.exec = Jvm.exec → c.code = cc → meth.sig.returnType = ret → c.maxLocals = maxL → s.vm.findClass y.cls = some m.cls → (∀ w ∈ wsL_law, w.before av.toArray s = true) → meth.locks = false → (∀ x ∈ c.exceptionTable.toList, False) →
      s.heap.size = sz → A = va_A W0 sz → (∀ q : Nat, s.heap.size ≤ q → A q) → va_P g vwCl W0 s.heap → va_D A W0 → va_K g vwCl (Ty cy) s → Cx A s s.heap → Cy s → lv_has ls maxL (lv_args 0 av) →
      W p l e rm s m av.toArray below meth c s.heap [] 0 0 (vx_MQ below Qc XC av.toArray s mc ms free) (F0 m 0 ls [])) : vx_Met l y (Cond.code y cc maxL ret :: wsL_law) rm (va_Pc av (pr2 g cy W0 sz)) Qc XC mc ms free := by
  refine vx_ofW (cc := cc) (maxL := maxL) (ret := ret) hy rfl ?_
  intro p e s m args below meth c s₁ B hml ht hv
  obtain ⟨rfl, ⟨hsz, hP, hK, hD0, hX⟩, hY⟩ := hv
  have hD : va_D (va_A W0 sz) W0 := hD0.self
  rw [lg_entry_eq]
  exact body p e s m below meth c _ (va_A W0 sz) B.exec B.bytes B.returns hml (findClass_of_methodNamed B.named) (fun w h => atoms_spec (ws := Cond.code y cc maxL ret :: wsL_law) B.pre w (List.mem_cons_of_mem _ h)) B.notSynchronized ht hsz rfl (fun q h => Or.inr (by rw [← hsz]; exact h)) hP hD hK hX hY (lv_entry av hlen)
/-- what the object's cells hold that no call shows: the board's rows, the trial board, the ring's place, the ring's boards, the slots' boards, the reader's place, letter, parts -/
abbrev Sc : Type := (Nat → Nat → Int32) × BdR × Nat × (Nat → BdR) × BdR × BdR × Nat × Nat × (Nat → Nat) × Nat
/-- a board that is a state -/
def isB (hb : Nat) (r : BdR) (τ : Nat → Nat) : Prop := WF hb τ ∧ ∃ bb, BR τ bb ∧ r.1 = τ ∧ r.2.1 = cmk τ ∧ r.2.2.1 = wv τ ∧ r.2.2.2.2.1 = bb 2 ∧ r.2.2.2.2.2.1 = bb 3 ∧ r.2.2.2.2.2.2.1 = mS (pu τ)
def FInv (hb : Nat) (b : Nat → Nat → Int32) (o : Nat) (R : Nat → BdR) (r0 r1 : BdR) (σ : Nat → Nat) (Hh : Nat → Nat → Nat) (n : Nat) (K : Nat → Nat → Nat) (fl : Nat → Bool) (tx : Nat → Nat) (ln : Nat) : Prop :=
  WF hb σ ∧ BR σ b ∧ o < 14 ∧ n ≤ 14 ∧ (∀ k, k < n → isB hb (R ((o + k) % 14)) (Hh k)) ∧ (fl 0 = true → isB hb r0 (K 0)) ∧ (fl 1 = true → isB hb r1 (K 1)) ∧ (∀ i, tx i < 256) ∧ ln ≤ 120
def fW (cy : Nat → ClassId) (x a tr s0 s1 : Nat → Nat) (pa : Nat → Nat → Nat) (b : Nat → Nat → Int32) (rt : BdR) (o : Nat) (R : Nat → BdR) (r0 r1 : BdR) (p lt : Nat) (pt : Nat → Nat) (pn : Nat) (σ : Nat → Nat) (n : Nat) (fl : Nat → Bool) (tx : Nat → Nat) (ln : Nat) : va_W :=
  ((x 0, .inr (5, [.ref (a 0), .ref (tr 0), .ref (x 1), .ref (x 3), .ref (x 4), .ref (x 5)])) :: (a 0, .inr (0, [.ref (a 1), .ref (a 4), .ref (a 6), .ref (a 8), .ref (a 9), .int (nI (σ 2)), .int (nI (σ 3)), .int (nI (σ 4)), .int (nI (σ 5)), .int (nI (σ 6)), .int (nI (σ 7))])) :: (a 1, .inr (2, [.ref (a 2), .ref (a 3), .int (nI (cmk σ))])) :: aI cy (a 2) 144 (wv σ) :: aI cy (a 3) 12 (b 1) :: (a 4, .inr (3, [.int (nI 6), .int (nI 11), .ref (a 5), .int (nI (σ 0))])) :: aI cy (a 5) 66 (b 2) :: (a 6, .inr (3, [.int (nI 20), .int (nI 6), .ref (a 7), .int (nI (σ 1))])) :: aI cy (a 7) 120 (b 3) :: aI cy (a 8) 8 (mS (pu σ)) :: aI cy (a 9) 6 (b 5) :: (tr 0, .inr (0, [.ref (tr 1), .ref (tr 4), .ref (tr 6), .ref (tr 8), .ref (tr 9), .int (nI (rt.1 2)), .int (nI (rt.1 3)), .int (nI (rt.1 4)), .int (nI (rt.1 5)), .int (nI (rt.1 6)), .int (nI (rt.1 7))])) :: (tr 1, .inr (2, [.ref (tr 2), .ref (tr 3), .int (nI rt.2.1)])) :: aI cy (tr 2) 144 rt.2.2.1 :: aI cy (tr 3) 12 rt.2.2.2.1 :: (tr 4, .inr (3, [.int (nI 6), .int (nI 11), .ref (tr 5), .int (nI (rt.1 0))])) :: aI cy (tr 5) 66 rt.2.2.2.2.1 :: (tr 6, .inr (3, [.int (nI 20), .int (nI 6), .ref (tr 7), .int (nI (rt.1 1))])) :: aI cy (tr 7) 120 rt.2.2.2.2.2.1 :: aI cy (tr 8) 8 rt.2.2.2.2.2.2.1 :: aI cy (tr 9) 6 rt.2.2.2.2.2.2.2 :: (x 1, .inr (1, [.ref (x 2), .int (nI o), .int (nI n)])) :: aB cy (x 2) 14 (fun j => some (pa j 0)) :: aB cy (x 3) 2 (fun j => some (if j = 0 then s0 0 else s1 0)) :: aZ cy (x 4) 2 (fun j => bI (fl j)) :: (x 5, .inr (4, [.ref (x 6), .int (nI ln), .int (nI p), .int (nI lt), .ref (x 7), .int (nI pn)])) :: aI cy (x 6) 120 (mS tx) :: aI cy (x 7) 4 (mS pt) :: (s0 0, .inr (0, [.ref (s0 1), .ref (s0 4), .ref (s0 6), .ref (s0 8), .ref (s0 9), .int (nI (r0.1 2)), .int (nI (r0.1 3)), .int (nI (r0.1 4)), .int (nI (r0.1 5)), .int (nI (r0.1 6)), .int (nI (r0.1 7))])) :: (s0 1, .inr (2, [.ref (s0 2), .ref (s0 3), .int (nI r0.2.1)])) :: aI cy (s0 2) 144 r0.2.2.1 :: aI cy (s0 3) 12 r0.2.2.2.1 :: (s0 4, .inr (3, [.int (nI 6), .int (nI 11), .ref (s0 5), .int (nI (r0.1 0))])) :: aI cy (s0 5) 66 r0.2.2.2.2.1 :: (s0 6, .inr (3, [.int (nI 20), .int (nI 6), .ref (s0 7), .int (nI (r0.1 1))])) :: aI cy (s0 7) 120 r0.2.2.2.2.2.1 :: aI cy (s0 8) 8 r0.2.2.2.2.2.2.1 :: aI cy (s0 9) 6 r0.2.2.2.2.2.2.2 :: (s1 0, .inr (0, [.ref (s1 1), .ref (s1 4), .ref (s1 6), .ref (s1 8), .ref (s1 9), .int (nI (r1.1 2)), .int (nI (r1.1 3)), .int (nI (r1.1 4)), .int (nI (r1.1 5)), .int (nI (r1.1 6)), .int (nI (r1.1 7))])) :: (s1 1, .inr (2, [.ref (s1 2), .ref (s1 3), .int (nI r1.2.1)])) :: aI cy (s1 2) 144 r1.2.2.1 :: aI cy (s1 3) 12 r1.2.2.2.1 :: (s1 4, .inr (3, [.int (nI 6), .int (nI 11), .ref (s1 5), .int (nI (r1.1 0))])) :: aI cy (s1 5) 66 r1.2.2.2.2.1 :: (s1 6, .inr (3, [.int (nI 20), .int (nI 6), .ref (s1 7), .int (nI (r1.1 1))])) :: aI cy (s1 7) 120 r1.2.2.2.2.2.1 :: aI cy (s1 8) 8 r1.2.2.2.2.2.2.1 :: aI cy (s1 9) 6 r1.2.2.2.2.2.2.2 :: (pool cy pa 14 R))
def fQ (cy : Nat → ClassId) (x a tr s0 s1 : Nat → Nat) (pa : Nat → Nat → Nat) (q : Sc) (σ : Nat → Nat) (n : Nat) (fl : Nat → Bool) (tx : Nat → Nat) (ln : Nat) : va_W := fW cy x a tr s0 s1 pa q.1 q.2.1 q.2.2.1 q.2.2.2.1 q.2.2.2.2.1 q.2.2.2.2.2.1 q.2.2.2.2.2.2.1 q.2.2.2.2.2.2.2.1 q.2.2.2.2.2.2.2.2.1 q.2.2.2.2.2.2.2.2.2 σ n fl tx ln
def fI (hb : Nat) (q : Sc) (σ : Nat → Nat) (Hh : Nat → Nat → Nat) (n : Nat) (K : Nat → Nat → Nat) (fl : Nat → Bool) (tx : Nat → Nat) (ln : Nat) : Prop := FInv hb q.1 q.2.2.1 q.2.2.2.1 q.2.2.2.2.1 q.2.2.2.2.2.1 σ Hh n K fl tx ln
/-- the states that are remembered, one more -/
def hiH (Hh : Nat → Nat → Nat) (n : Nat) (σ : Nat → Nat) : Nat → Nat → Nat := fun k => if n < 14 then (if k = n then σ else Hh k) else (if k = 13 then σ else Hh (k + 1))
theorem isB_mono {a c : Nat} {r : BdR} {τ : Nat → Nat} (h : isB a r τ) (h1 : a ≤ c) (h2 : c ≤ 100000) : isB c r τ := ⟨WF_mono h.1 h1 h2, h.2⟩
theorem WF.bd {σ : Nat → Nat} {hb : Nat} (h : WF hb σ) : hb ≤ 100000 := h.1
/-- a state remembered: the ring's boards are those states -/
theorem hi_ring {hb o n : Nat} {R : Nat → BdR} {Hh : Nat → Nat → Nat} {σ : Nat → Nat} {r : BdR} (ho : o < 14) (hn : n ≤ 14) (hH : ∀ k, k < n → isB hb (R ((o + k) % 14)) (Hh k)) (hr : isB hb r σ) :
    ∀ k, k < hiN n → isB hb (upR R ((o + n) % 14) r ((hiO o n + k) % 14)) (hiH Hh n σ k) := by
  intro k hk
  unfold hiN at hk
  unfold hiO hiH
  by_cases h : n < 14
  · rw [if_pos h] at hk
    rw [if_pos h, if_pos h]
    by_cases e : k = n
    · subst e
      rw [if_pos rfl, upR_s]
      exact hr
    · rw [if_neg e, upR_n (by omega)]
      exact hH k (by omega)
  · rw [if_neg h] at hk
    rw [if_neg h, if_neg h]
    have hn14 : n = 14 := by omega
    subst hn14
    by_cases e : k = 13
    · subst e
      rw [if_pos rfl, show ((o + 1) % 14 + 13) % 14 = (o + 14) % 14 by omega, upR_s]
      exact hr
    · rw [if_neg e, upR_n (by omega), show ((o + 1) % 14 + k) % 14 = (o + (k + 1)) % 14 by omega]
      exact hH (k + 1) (by omega)
theorem isB_cp {hb : Nat} {σ : Nat → Nat} {b : Nat → Nat → Int32} {r : BdR} {sw pl : Nat → Int32} (hwf : WF hb σ) (hbr : BR σ b) : isB hb (cpR r (σ, cmk σ, wv σ, sw, b 2, b 3, mS (pu σ), pl)) σ := ⟨hwf, b, hbr, rfl, rfl, rfl, rfl, rfl, rfl⟩
-- what holds behind the actions
theorem WF_loseR {σ : Nat → Nat} {hb : Nat} {m p c r : Int32} (h : WF hb σ) : WF hb (loseR σ m p c r) := by
  by_cases q : fLose σ m p c r = 0
  · obtain ⟨m9, p9, c9, r9, ⟨rfl, rfl, rfl, rfl⟩, h1, h2, h3, h4, h5, h6, h7, h8⟩ := fLose_0 q
    rw [loseR_0 h2 h4 h5 h7 q]
    exact WF_lose h h8 h2 h3 h4 h5 h7
  · rw [show loseR σ m p c r = σ from if_neg q]
    exact h
theorem WF_sightR {σ : Nat → Nat} {hb : Nat} {f c m a : Int32} {ph : Bool} (h : WF hb σ) : WF hb (sightR σ f c m a ph) := by
  by_cases q : fTell σ f c m a = 0
  · have h2 := h.h2
    obtain ⟨f9, c9, m9, a9, ⟨rfl, rfl, rfl, rfl⟩, h1, h2, h3, h4, h5, h6⟩ := fTell_0 (by omega) q
    rw [(sightR_0 h1 h2 h3 h4 q).1]
    exact WF_sight h h6 h1 h2 h3 (by split <;> omega)
  · rw [show sightR σ f c m a ph = σ from if_neg q]
    exact h
theorem WF_findR {σ : Nat → Nat} {hb : Nat} {d f c : Int32} (h : WF hb σ) : WF hb (findR σ d f c) := by
  by_cases q : fFind σ d f c = 0
  · have h0 := h.n0
    obtain ⟨d9, f9, c9, ⟨rfl, rfl, rfl⟩, h1, h2, h3, h4⟩ := fFind_0 h0 q
    rw [(findR_0 (by omega) h3 h4 q).1]
    exact WF_find h h1 h3 h4
  · rw [show findR σ d f c = σ from if_neg q]
    exact h
theorem spl_inj9 {k j : Nat} (hk : k < 17) (hj : j < 17) (h : spl j = spl k) : j = k := Classical.byContradiction (fun e => by
  have := spl_inj j hj k hk
  exact e (this h))
theorem WF_cl {σ : Nat → Nat} {hb k : Nat} {on : Bool} (h : WF hb σ) (hk : k < 17) : WF hb (clS σ k on) := by
  have q := spl_ok k hk
  obtain ⟨a1, a2, a3, a4, a5, a6, a7, a8, a9⟩ := h
  have hd : ∀ d j, dg (clS σ k on) d j = dg σ d j := fun d j => by unfold dg; exact clS_hi hk (by omega)
  have hg : ∀ s j, sg (clS σ k on) s j = sg σ s j := fun s j => by unfold sg; exact clS_hi hk (by omega)
  have e : ∀ j, j < 16 → clS σ k on j = σ j := fun j hj => clS_hi hk (Or.inl hj)
  refine ⟨a1, by rw [e 2 (by omega)]; exact a2, by rw [e 0 (by omega)]; exact a3, by rw [e 1 (by omega)]; exact a4, by rw [e 6 (by omega)]; exact a5, by rw [e 7 (by omega)]; exact a6, fun d hd9 => ?_, fun s hs9 => ?_, fun i hi hi2 => ?_⟩
  · have q := a7 d (by rw [e 0 (by omega)] at hd9; exact hd9)
    unfold wfD at q ⊢
    simp only [hd, e 2 (by omega)]
    exact q
  · have q := a8 s (by rw [e 1 (by omega)] at hs9; exact hs9)
    unfold wfS at q ⊢
    simp only [hg, hd, e 2 (by omega), e 0 (by omega)]
    exact q
  · unfold clS
    by_cases h : i = spl k
    · subst h
      rw [up_s]
      exact ⟨by split <;> omega, fun z => absurd rfl (z k hk)⟩
    · rw [up_n h]
      exact a9 i hi hi2
theorem WF_closeR {σ : Nat → Nat} {hb : Nat} {a b : Int32} {on : Bool} (h : WF hb σ) : WF hb (closeR σ a b on) := by
  by_cases q : fClose a b = 0
  · obtain ⟨a9, b9, rfl, rfl, h1, h2, h3⟩ := fClose_0 q
    rw [show closeR σ (nI a9) (nI b9) on = clS σ (sbt (nI a9).toNatClampNeg (nI b9).toNatClampNeg 17) on from if_pos q, nI_clamp (by omega), nI_clamp (by omega)]
    exact WF_cl h h3
  · rw [show closeR σ a b on = σ from if_neg q]
    exact h
theorem WF_hoursR {σ : Nat → Nat} {hb : Nat} {v : Int32} (h : WF hb σ) (hh : hb + 99 ≤ 100000) : WF (hb + 99) (hoursR σ v) := by
  by_cases q : fPass v = 0
  · obtain ⟨n, rfl, h1, h2⟩ := fPass_0 q
    rw [show hoursR σ (nI n) = hoS σ (nI n).toNatClampNeg from if_pos q, nI_clamp (by omega)]
    exact WF_mono (WF_hours h (by omega)) (by omega) hh
  · rw [show hoursR σ v = σ from if_neg q]
    exact WF_mono h (by omega) hh
theorem WF_setR {σ : Nat → Nat} {hb : Nat} {w v : Int32} (h : WF hb σ) : WF hb (setR σ w v) := by
  by_cases q : fSet w v = 0
  · obtain ⟨v9, rfl, h1, h2⟩ := fSet_0 q
    rw [show setR σ w (nI v9) = setS σ (decide (w = 0)) (nI v9).toNatClampNeg from if_pos q, nI_clamp (by omega)]
    have hg : σ 6 ≤ 50 := h.2.2.2.2.1
    have hu : σ 7 ≤ 8 := h.2.2.2.2.2.1
    refine WF_same h rfl rfl rfl ?_ ?_ (fun i hi => setS_lo (by omega))
    · show (if decide (w = 0) = true then v9 else σ 6) ≤ 50
      split <;> omega
    · show (if decide (w = 0) = true then σ 7 else v9) ≤ 8
      split
      · omega
      · rename_i z
        rcases h2 with h2 | h2
        · exact absurd (decide_eq_true h2) z
        · exact h2.2
  · rw [show setR σ w v = σ from if_neg q]
    exact h
theorem WF_doR {σ : Nat → Nat} {hb lt : Nat} {f : Nat → Nat} (h : WF hb σ) (hh : hb + 99 ≤ 100000) : WF (hb + 99) (doR lt f σ) := by
  have m : ∀ τ, WF hb τ → WF (hb + 99) τ := fun τ q => WF_mono q (by omega) hh
  unfold doR
  split
  · exact m _ (WF_loseR h)
  · split
    · exact m _ (WF_findR h)
    · split
      · exact WF_hoursR h hh
      · split
        · exact m _ (WF_sightR h)
        · split
          · exact m _ (WF_closeR h)
          · exact m _ h
theorem WF_scS {σ : Nat → Nat} {hb g : Nat} (h : WF hb σ) (hh : hb + 99 ≤ 100000) : WF (hb + 99) (scS g σ) := by
  have m : ∀ τ, WF hb τ → WF (hb + 99) τ := fun τ q => WF_mono q (by omega) hh
  unfold scS
  split
  · split
    · exact WF_hoursR h hh
    · exact m _ h
  · split
    · split
      · exact m _ (WF_sightR h)
      · exact m _ h
    · split
      · split
        · exact m _ (WF_findR h)
        · exact m _ h
      · split
        · split
          · exact m _ (WF_closeR h)
          · exact m _ h
        · split
          · split
            · exact m _ (WF_setR h)
            · exact m _ h
          · exact m _ h
theorem WF_plR {σ : Nat → Nat} {hb r : Nat} (h : WF hb σ) (hh : hb + 99 ≤ 100000) : WF (hb + 99) (plR r σ) := by
  have m : ∀ τ, WF hb τ → WF (hb + 99) τ := fun τ q => WF_mono q (by omega) hh
  unfold plR
  split
  · exact m _ (WF_loseR h)
  · split
    · exact m _ (WF_sightR h)
    · split
      · exact m _ (WF_findR h)
      · split
        · exact m _ (WF_closeR h)
        · exact WF_hoursR h hh
theorem FInv_b {hb hb' o n ln : Nat} {b : Nat → Nat → Int32} {R : Nat → BdR} {r0 r1 : BdR} {σ : Nat → Nat} {Hh K : Nat → Nat → Nat} {fl : Nat → Bool} {tx : Nat → Nat} (h : FInv hb b o R r0 r1 σ Hh n K fl tx ln) (h1 : hb ≤ hb') (h2 : hb' ≤ 100000) : FInv hb' b o R r0 r1 σ Hh n K fl tx ln :=
  ⟨WF_mono h.1 h1 h2, h.2.1, h.2.2.1, h.2.2.2.1, fun k hk => isB_mono (h.2.2.2.2.1 k hk) h1 h2, fun q => isB_mono (h.2.2.2.2.2.1 q) h1 h2, fun q => isB_mono (h.2.2.2.2.2.2.1 q) h1 h2, h.2.2.2.2.2.2.2⟩
