/-! THE LAW'S HELPERS: a call of the object's method under a table of handlers. -/
theorem at_suffix {ws r : va_W} : ((List.range r.length).map (fun k => ws.length + k)).map (fun i => (ws ++ r)[i]?) = r.map some := by
  apply List.ext_getElem?
  intro i
  by_cases h : i < r.length
  · simp [h]
  · simp [h]
theorem nd_suffix {m n : Nat} : va_nd ((List.range n).map (fun k => m + k)) = true := nd_map (nd_range n)
section TR
variable {p : Program} {l : Launch} {e : Env} {R : Room} {s : State} {m : MethodId} {args : Array Value} {below : List Frame} {meth : Method} {c : Code} {H : Heap} {locs : List Loc} {cells slots : Nat} {Q : State → Prop}
variable {g : va_G} {cy : Nat → ClassId} {pre wc : va_W} {A0 : Nat → Prop} {pc : Nat} {ls : Array Slot} {rest st0 : List Value} {a : Array Value} {mc ms : Nat}
theorem pv2S {b : Addr} {As : List Value} {C : String} {T : u_T} {N : Nat} {fs : List Value} (hK : va_K g vwCl (Ty cy) s) (hP : va_P g vwCl (pre ++ wc) H) (hD : va_D A0 (pre ++ wc)) (hS : va_S A0 s.heap H locs) (hA : ∀ q : Nat, s.heap.size ≤ q → A0 q) (hX : Cx A0 s s.heap) (hY : Cy s)
    (ci : Nat) (hc : vwCl[ci]? = some (C, T, N)) (he : wc[0]? = some (b, .inr (ci, fs))) : PreV s H C b (va_Pc (.ref b :: As) (pr2 g cy wc H.size)) As :=
  pv2 hK hP hD hS hA hX hY _ (nd_suffix (m := pre.length)) at_suffix ci pre.length hc (by rw [List.getElem?_append_right (Nat.le_refl _), Nat.sub_self]; exact he)
theorem pvS {b : Addr} {As : List Value} {C : String} {T : u_T} {N : Nat} {fs : List Value} (hK : va_K g vwCl (Ty cy) s) (hP : va_P g vwCl (pre ++ wc) H) (hD : va_D A0 (pre ++ wc)) (hS : va_S A0 s.heap H locs) (hA : ∀ q : Nat, s.heap.size ≤ q → A0 q) (hX : Cx A0 s s.heap)
    (ci : Nat) (hc : vwCl[ci]? = some (C, T, N)) (he : wc[0]? = some (b, .inr (ci, fs))) : PreV s H C b (va_Pc (.ref b :: As) (pr g cy wc H.size)) As :=
  pv hK hP hD hS hA hX _ (nd_suffix (m := pre.length)) at_suffix ci pre.length hc (by rw [List.getElem?_append_right (Nat.le_refl _), Nat.sub_self]; exact he)
/-- the cells of the callee, changed, behind the others -/
theorem suf_P {w1 : va_W} {H1 : Heap} (hP : va_P g vwCl (pre ++ wc) H) (hD : va_D A0 (pre ++ wc)) (hadr : w1.map Prod.fst = wc.map Prod.fst) (hk : ∀ q : Nat, q < H.size → ¬ va_A wc H.size q → H1[q]? = H[q]?) (hP1 : va_P g vwCl w1 H1) : va_P g vwCl (pre ++ w1) H1 ∧ va_D A0 (pre ++ w1) := by
  have hlen : w1.length = wc.length := by simpa using congrArg List.length hadr
  have key : ∀ (i : Nat) (x : Nat × va_E), (pre ++ w1)[i]? = some x → ∃ y, (pre ++ wc)[i]? = some y ∧ y.1 = x.1 := by
    intro i x h
    by_cases hi : i < pre.length
    · rw [List.getElem?_append_left hi] at h ⊢
      exact ⟨x, h, rfl⟩
    · rw [List.getElem?_append_right (by omega)] at h ⊢
      have h2 : (w1.map Prod.fst)[i - pre.length]? = some x.1 := by rw [List.getElem?_map, h]; rfl
      rw [hadr, List.getElem?_map] at h2
      cases hq : wc[i - pre.length]? with
      | none => rw [hq] at h2; cases h2
      | some y => rw [hq] at h2; exact ⟨y, rfl, Option.some.inj h2⟩
  refine ⟨fun i x h => ?_, fun i j x y hi hj hxy => ?_, fun i x h => ?_⟩
  · by_cases hi : i < pre.length
    · have h' := h
      rw [List.getElem?_append_left hi] at h'
      have h0 : (pre ++ wc)[i]? = some x := by rw [List.getElem?_append_left hi]; exact h'
      refine (hP i x h0).kept (hk x.1 (hP i x h0).lt ?_)
      rintro (⟨k, e, h3⟩ | h3)
      · have h4 : (pre ++ wc)[pre.length + k]? = some (x.1, e) := by rw [List.getElem?_append_right (by omega), Nat.add_sub_cancel_left]; exact h3
        have := hD.1 i (pre.length + k) x (x.1, e) h0 h4 rfl
        omega
      · exact absurd (hP i x h0).lt (Nat.not_lt.mpr h3)
    · rw [List.getElem?_append_right (by omega)] at h
      exact hP1 _ x h
  · obtain ⟨x0, h1, h2⟩ := key i x hi
    obtain ⟨y0, h3, h4⟩ := key j y hj
    exact hD.1 i j x0 y0 h1 h3 (h2.trans (hxy.trans h4.symm))
  · obtain ⟨y0, h1, h2⟩ := key i x h
    rw [← h2]
    exact hD.2 i y0 h1
theorem tr_call {S : Type} {v : S → Option Value} {post : S → Prop} {w1 : S → va_W} {k : Nat}
    (hr : vx_Run p l e R s m args below meth c H locs cells slots mc ms (F0 m pc ls st0) rest (wr_Q v post w1 g (va_A wc H.size) a) (xXC k) (va_A wc H.size)) (hP : va_P g vwCl (pre ++ wc) H) (hD : va_D A0 (pre ++ wc)) (hS : va_S A0 s.heap H locs) (hA : ∀ q : Nat, s.heap.size ≤ q → A0 q) (hadr : ∀ u, (w1 u).map Prod.fst = wc.map Prod.fst)
    (kk : ∀ (u : S) (H1 : Heap) (locs1 : List Loc), post u → va_P g vwCl (pre ++ w1 u) H1 → va_D A0 (pre ++ w1 u) → va_S A0 s.heap H1 locs1 → W p l e R s m args below meth c H1 locs1 (cells + mc) (slots + ms) Q (F0 m (pc + 3) ls ((v u).toList ++ rest)))
    (kx : k ≠ 0 → ∀ (q : Addr) (ce : Cell) (H1 : Heap) (locs1 : List Loc), H1[q]? = some ce → ce.vm = .none → s.vm.findClass (exN k) = some ce.cls → va_P g vwCl (pre ++ wc) H1 → va_S A0 s.heap H1 locs1 → vx_W p l e R s m args below meth c H1 locs1 (cells + mc) (slots + ms) Q (F0 m pc ls rest) q) :
    W p l e R s m args below meth c H locs cells slots Q (F0 m pc ls st0) := by
  have hF := va_free hD hS hA _ (at_suffix (ws := pre) (r := wc))
  have hL9 : ∀ (L : List Loc), (∀ q ∈ L, va_A wc H.size q.base) → ∀ q ∈ locs ++ L, A0 q.base := fun L hL q hq => by
    rcases List.mem_append.mp hq with h | h
    · exact hS.2.2 q h
    · exact hF _ (hL q h)
  intro T hT X
  rcases hr T hT X with ⟨v', st₀, t, T', L, h0, X', hL, e1, e2, ⟨⟨u, hv, hp, hb⟩, hz, hk⟩, st⟩ | ⟨q, st₀, t, T', L, E, ce, h0, X', hL, e1, e2, ⟨hkne, hE, hz, hk⟩, hce, hcv, hcl, st⟩
  · cases hv
    rw [h0] at hz hk
    have hj := suf_P (H1 := T'.heap) hP hD (hadr u) (fun q h1 h2 => by rw [e1]; exact hk q h1 h2) (by rw [e1]; exact hb)
    obtain ⟨t2, a1, b1⟩ := kk u T'.heap (locs ++ L) hp hj.1 hj.2
      ⟨Nat.le_trans hS.1 (by rw [e1]; exact hz), fun q h1 h2 => by rw [e1, hk q (Nat.lt_of_lt_of_le h1 hS.1) (fun z => h2 (hF q z))]; exact hS.2.1 q h1 h2, hL9 L hL⟩ T' rfl X'
    exact ⟨t2, st t2 a1, b1⟩
  · subst hE
    rw [h0] at hz hk
    have hP2 : va_P g vwCl (pre ++ wc) T'.heap := fun i x h => (hP i x h).kept (by rw [e1]; exact hk x.1 (hP i x h).lt (fun z => z))
    obtain ⟨t2, a1, b1⟩ := kx hkne q ce T'.heap (locs ++ L) (by rw [e1]; exact hce) hcv hcl hP2
      ⟨Nat.le_trans hS.1 (by rw [e1]; exact hz), fun q h1 h2 => by rw [e1, hk q (Nat.lt_of_lt_of_le h1 hS.1) (fun z => z)]; exact hS.2.1 q h1 h2, hL9 L hL⟩ T' rfl X'
    exact ⟨t2, st.trans a1, b1⟩
/-- behind a call on the last cells that wrote -/
theorem wr_callS {S : Type} {v : S → Option Value} {post : S → Prop} {w1 : S → va_W} (hr : va_Run p l e R s m args below meth c H locs cells slots mc ms (F0 m pc ls st0) rest (wr_Q v post w1 g (va_A wc H.size) a) (va_A wc H.size)) (hP : va_P g vwCl (pre ++ wc) H) (hD : va_D A0 (pre ++ wc)) (hS : va_S A0 s.heap H locs) (hA : ∀ q : Nat, s.heap.size ≤ q → A0 q) (hadr : ∀ u, (w1 u).map Prod.fst = wc.map Prod.fst)
    (kk : ∀ (u : S) (H1 : Heap) (locs1 : List Loc), post u → va_P g vwCl (pre ++ w1 u) H1 → va_D A0 (pre ++ w1 u) → va_S A0 s.heap H1 locs1 → W p l e R s m args below meth c H1 locs1 (cells + mc) (slots + ms) Q (F0 m (pc + 3) ls ((v u).toList ++ rest))) :
    W p l e R s m args below meth c H locs cells slots Q (F0 m pc ls st0) := by
  have hF := va_free hD hS hA _ (at_suffix (ws := pre) (r := wc))
  intro T hT X
  obtain ⟨v', st₀, t, T', L, h0, X', hL, e1, e2, ⟨⟨u, hv, hp, hb⟩, hz, hk⟩, st⟩ := hr T hT X
  cases hv
  rw [h0] at hz hk
  have hj := suf_P (H1 := T'.heap) hP hD (hadr u) (fun q h1 h2 => by rw [e1]; exact hk q h1 h2) (by rw [e1]; exact hb)
  obtain ⟨t2, a1, b1⟩ := kk u T'.heap (locs ++ L) hp hj.1 hj.2
    ⟨Nat.le_trans hS.1 (by rw [e1]; exact hz), fun q h1 h2 => by rw [e1, hk q (Nat.lt_of_lt_of_le h1 hS.1) (fun z => h2 (hF q z))]; exact hS.2.1 q h1 h2, fun q hq => by
      rcases List.mem_append.mp hq with h | h
      · exact hS.2.2 q h
      · exact hF _ (hL q h)⟩ T' rfl X'
  exact ⟨t2, st t2 a1, b1⟩
theorem tr_callL {S : Type} {v : S → Option Value} {post : S → Prop} {w1 : S → va_W} {k : Nat} {WX : Sc → va_W} {IX : Sc → Prop}
    (hr : vx_Run p l e R s m args below meth c H locs cells slots mc ms (F0 m pc ls st0) rest (wr_Q v post w1 g (va_A wc H.size) a) (xXL g WX IX (va_A wc H.size) k) (va_A wc H.size)) (hP : va_P g vwCl (pre ++ wc) H) (hD : va_D A0 (pre ++ wc)) (hS : va_S A0 s.heap H locs) (hA : ∀ q : Nat, s.heap.size ≤ q → A0 q) (hadr : ∀ u, (w1 u).map Prod.fst = wc.map Prod.fst) (hadrX : ∀ u, (WX u).map Prod.fst = wc.map Prod.fst)
    (kk : ∀ (u : S) (H1 : Heap) (locs1 : List Loc), post u → va_P g vwCl (pre ++ w1 u) H1 → va_D A0 (pre ++ w1 u) → va_S A0 s.heap H1 locs1 → W p l e R s m args below meth c H1 locs1 (cells + mc) (slots + ms) Q (F0 m (pc + 3) ls ((v u).toList ++ rest)))
    (kx : k ≠ 0 → ∀ (q9 : Sc), IX q9 → ∀ (q : Addr) (ce : Cell) (H1 : Heap) (locs1 : List Loc), H1[q]? = some ce → ce.vm = .none → s.vm.findClass (exN k) = some ce.cls → va_P g vwCl (pre ++ WX q9) H1 → va_S A0 s.heap H1 locs1 → vx_W p l e R s m args below meth c H1 locs1 (cells + mc) (slots + ms) Q (F0 m pc ls rest) q) :
    W p l e R s m args below meth c H locs cells slots Q (F0 m pc ls st0) := by
  have hF := va_free hD hS hA _ (at_suffix (ws := pre) (r := wc))
  have hL9 : ∀ (L : List Loc), (∀ q ∈ L, va_A wc H.size q.base) → ∀ q ∈ locs ++ L, A0 q.base := fun L hL q hq => by
    rcases List.mem_append.mp hq with h | h
    · exact hS.2.2 q h
    · exact hF _ (hL q h)
  intro T hT X
  rcases hr T hT X with ⟨v', st₀, t, T', L, h0, X', hL, e1, e2, ⟨⟨u, hv, hp, hb⟩, hz, hk⟩, st⟩ | ⟨q, st₀, t, T', L, E, ce, h0, X', hL, e1, e2, ⟨hkne, hE, ⟨q9, hI9, hb⟩, hz, hk⟩, hce, hcv, hcl, st⟩
  · cases hv
    rw [h0] at hz hk
    have hj := suf_P (H1 := T'.heap) hP hD (hadr u) (fun q h1 h2 => by rw [e1]; exact hk q h1 h2) (by rw [e1]; exact hb)
    obtain ⟨t2, a1, b1⟩ := kk u T'.heap (locs ++ L) hp hj.1 hj.2
      ⟨Nat.le_trans hS.1 (by rw [e1]; exact hz), fun q h1 h2 => by rw [e1, hk q (Nat.lt_of_lt_of_le h1 hS.1) (fun z => h2 (hF q z))]; exact hS.2.1 q h1 h2, hL9 L hL⟩ T' rfl X'
    exact ⟨t2, st t2 a1, b1⟩
  · subst hE
    rw [h0] at hz hk
    have hj := suf_P (H1 := T'.heap) hP hD (hadrX q9) (fun q h1 h2 => by rw [e1]; exact hk q h1 h2) (by rw [e1]; exact hb)
    obtain ⟨t2, a1, b1⟩ := kx hkne q9 hI9 q ce T'.heap (locs ++ L) (by rw [e1]; exact hce) hcv hcl hj.1
      ⟨Nat.le_trans hS.1 (by rw [e1]; exact hz), fun q h1 h2 => by rw [e1, hk q (Nat.lt_of_lt_of_le h1 hS.1) (fun z => h2 (hF q z))]; exact hS.2.1 q h1 h2, hL9 L hL⟩ T' rfl X'
    exact ⟨t2, st.trans a1, b1⟩
end TR
/-- a helper's contract out of its walk: its body has handlers -/
theorem mt_h {l : Launch} {g : va_G} {cy : Nat → ClassId} {y : MethodName} {rm : Room} {av : List Value} {W0 : va_W} {sz : Nat} {Qc : Array Value → State → Outcome → State → Prop} {mc ms : Nat} {free : Addr → Prop} {cc : ByteArray} {maxL : Nat} {ret : Option FieldType} {hh : List (Nat × Nat × Nat × Nat)}
    (hy : plainName y.cls = true) (hlen : (lg_sl av).length ≤ maxL)
    (body : ∀ (p : Program) (e : Env) (s : State) (m : MethodId) (below : List Frame) (meth : Method) (c : Code) (ls : Array Slot) (A : Nat → Prop), p.tables.exec = Jvm.exec → c.code = cc → meth.sig.returnType = ret → c.maxLocals = maxL → s.vm.findClass y.cls = some m.cls → (∀ w ∈ wsL_law, w.before av.toArray s = true) → meth.locks = false → c.exceptionTable.toList = tableOf hh →
      s.heap.size = sz → A = va_A W0 sz → (∀ q : Nat, s.heap.size ≤ q → A q) → va_P g vwCl W0 s.heap → va_D A W0 → va_K g vwCl (Ty cy) s → Cx A s s.heap → Cy s → lv_has ls maxL (lv_args 0 av) →
      W p l e rm s m av.toArray below meth c s.heap [] 0 0 (MQ below Qc av.toArray s mc ms free) (F0 m 0 ls [])) : Met l y (Cond.codeWith y cc maxL ret hh :: wsL_law) rm (va_Pc av (pr2 g cy W0 sz)) Qc mc ms free := by
  refine va_MetW (cc := cc) (maxL := maxL) (ret := ret) hy rfl ?_
  intro p e s m args below meth c s₁ B hml hv
  obtain ⟨rfl, ⟨hsz, hP, hK, hD0, hX⟩, hY⟩ := hv
  have hD : va_D (va_A W0 sz) W0 := hD0.self
  have hT : c.exceptionTable.toList = tableOf hh := vx_table (x := y) B (atoms_spec (ws := Cond.codeWith y cc maxL ret hh :: wsL_law) B.pre _ List.mem_cons_self)
  rw [lg_entry_eq]
  exact body p e s m below meth c _ (va_A W0 sz) B.exec B.bytes B.returns hml (findClass_of_methodNamed B.named) (fun w h => atoms_spec (ws := Cond.codeWith y cc maxL ret hh :: wsL_law) B.pre w (List.mem_cons_of_mem _ h)) B.notSynchronized hT hsz rfl (fun q h => Or.inr (by rw [← hsz]; exact h)) hP hD hK hX hY (lv_entry av hlen)
theorem fQ_ad {cy : Nat → ClassId} {x a tr s0 s1 : Nat → Nat} {pa : Nat → Nat → Nat} {q q' : Sc} {σ σ' : Nat → Nat} {n n' : Nat} {fl fl' : Nat → Bool} {tx tx' : Nat → Nat} {ln ln' : Nat} : (fQ cy x a tr s0 s1 pa q' σ' n' fl' tx' ln').map Prod.fst = (fQ cy x a tr s0 s1 pa q σ n fl tx ln).map Prod.fst := by
  unfold fQ fW
  simp only [List.map_cons]
  rw [pool_ad (R := q.2.2.2.1) 14]
