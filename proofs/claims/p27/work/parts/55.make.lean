/-! MAKING: constructors. A contract's end names the cells that it made, behind the object. -/
def cn_Q {S : Type} (post : S → Prop) (ws : S → va_W) (g : va_G) (A : Nat → Prop) : Array Value → State → Outcome → State → Prop := fun _ st oc t =>
  (∃ u : S, oc = .returned none ∧ post u ∧ va_P g vwCl (ws u) t.heap ∧ va_D A (ws u)) ∧ va_F A st t
theorem at_last {ws : va_W} {x : Nat × va_E} : [ws.length].map (fun i => (ws ++ [x])[i]?) = [x].map some := by simp
theorem at_range {ws r : va_W} : (List.range ws.length).map (fun i => (ws ++ r)[i]?) = ws.map some := by
  apply List.ext_getElem?
  intro i
  by_cases h : i < ws.length
  · simp [h, List.getElem?_append_left h]
  · simp [h]
section MK
variable {p : Program} {l : Launch} {e : Env} {R : Room} {s : State} {m : MethodId} {args : Array Value} {below : List Frame} {meth : Method} {c : Code} {H : Heap} {locs : List Loc} {cells slots : Nat} {Q : State → Prop}
variable {g : va_G} {cy : Nat → ClassId} {ws : va_W} {A0 : Nat → Prop} {pc : Nat} {ls : Array Slot} {rest st0 : List Value} {a : Array Value} {mc ms : Nat}
theorem nw_I {cc : ByteArray} (hx : p.tables.exec = Jvm.exec) (hb : c.code = cc) (harr : (Cond.arrayClass .int).before args s = true) (hK : va_K g vwCl (Ty cy) s) (hP : va_P g vwCl ws H) (hD : va_D A0 ws) (hS : va_S A0 s.heap H locs) (hA : ∀ q : Nat, s.heap.size ≤ q → A0 q) {n : Int32} {N' : Nat} (hn : ¬ n < 0) (hN : n.toNatClampNeg = N') (hbytes : N' * 4 ≤ 536870912) (hcells : cells + 1 ≤ R.cells) (hslots : slots + N' ≤ R.slots) (hdg : decode cc pc = .ok (.newarray .int, 2))
    (kk : ∀ (q : Nat) (H1 : Heap), va_P g vwCl (ws ++ [aI cy q N' (fun _ => 0)]) H1 → va_D A0 (ws ++ [aI cy q N' (fun _ => 0)]) → va_S A0 s.heap H1 locs → W p l e R s m args below meth c H1 locs (cells + 1) (slots + N') Q (F0 m (pc + 2) ls (.ref q :: rest))) : W p l e R s m args below meth c H locs cells slots Q (F0 m pc ls (.int n :: rest)) := by
  refine va_newa (atype := .int) hx hb harr rfl hK hP hD hS hA (a0 := (N', .inl (fun _ => 0))) (fun cA => rfl) hn hN hbytes hcells hslots hdg (fun q cA H1 hK1 hP1 hD1 hS1 => ?_)
  have e1 : s.vm.findClass ("[" ++ (FieldType.int).toString) = some (cy 0) := (hK.2 0 _ rfl).2
  have e2 : s.vm.findClass ("[" ++ (FieldType.int).toString) = some cA := (hK1.2 3 _ rfl).2
  have e : cA = cy 0 := Option.some.inj (e2.symm.trans e1)
  subst e
  exact kk q H1 hP1 hD1 hS1
theorem nw_Z {cc : ByteArray} (hx : p.tables.exec = Jvm.exec) (hb : c.code = cc) (harr : (Cond.arrayClass .boolean).before args s = true) (hK : va_K g vwCl (Ty cy) s) (hP : va_P g vwCl ws H) (hD : va_D A0 ws) (hS : va_S A0 s.heap H locs) (hA : ∀ q : Nat, s.heap.size ≤ q → A0 q) {n : Int32} {N' : Nat} (hn : ¬ n < 0) (hN : n.toNatClampNeg = N') (hbytes : N' * 1 ≤ 536870912) (hcells : cells + 1 ≤ R.cells) (hslots : slots + N' ≤ R.slots) (hdg : decode cc pc = .ok (.newarray .boolean, 2))
    (kk : ∀ (q : Nat) (H1 : Heap), va_P g vwCl (ws ++ [aZ cy q N' (fun _ => 0)]) H1 → va_D A0 (ws ++ [aZ cy q N' (fun _ => 0)]) → va_S A0 s.heap H1 locs → W p l e R s m args below meth c H1 locs (cells + 1) (slots + N') Q (F0 m (pc + 2) ls (.ref q :: rest))) : W p l e R s m args below meth c H locs cells slots Q (F0 m pc ls (.int n :: rest)) := by
  refine va_newa (atype := .boolean) hx hb harr rfl hK hP hD hS hA (a0 := (N', .inl (fun _ => 0))) (fun cA => rfl) hn hN hbytes hcells hslots hdg (fun q cA H1 hK1 hP1 hD1 hS1 => ?_)
  have e1 : s.vm.findClass ("[" ++ (FieldType.boolean).toString) = some (cy 1) := (hK.2 1 _ rfl).2
  have e2 : s.vm.findClass ("[" ++ (FieldType.boolean).toString) = some cA := (hK1.2 3 _ rfl).2
  have e : cA = cy 1 := Option.some.inj (e2.symm.trans e1)
  subst e
  exact kk q H1 hP1 hD1 hS1
theorem nw_B {cc : ByteArray} {own : String} {index : Nat} (hx : p.tables.exec = Jvm.exec) (hb : c.code = cc) (hown : s.vm.findClass own = some m.cls) (hcl : (Cond.classLink own index RX0).before args s = true) (hover : va_AO RX0 s) (hK : va_K g vwCl (Ty cy) s) (hP : va_P g vwCl ws H) (hD : va_D A0 ws) (hS : va_S A0 s.heap H locs) (hA : ∀ q : Nat, s.heap.size ≤ q → A0 q) {n : Int32} {N' : Nat} (hn : ¬ n < 0) (hN : n.toNatClampNeg = N') (hbytes : N' * 4 ≤ 536870912) (hcells : cells + 1 ≤ R.cells) (hslots : slots + N' ≤ R.slots) (hdg : decode cc pc = .ok (.anewarray index, 3))
    (kk : ∀ (q : Nat) (H1 : Heap), va_P g vwCl (ws ++ [aB cy q N' (fun _ => none)]) H1 → va_D A0 (ws ++ [aB cy q N' (fun _ => none)]) → va_S A0 s.heap H1 locs → W p l e R s m args below meth c H1 locs (cells + 1) (slots + N') Q (F0 m (pc + 3) ls (.ref q :: rest))) : W p l e R s m args below meth c H locs cells slots Q (F0 m pc ls (.int n :: rest)) := by
  refine va_newq hx hb hown hcl hover hK hP hD hS hA hn hN hbytes hcells hslots hdg (fun q cA H1 hK1 hP1 hD1 hS1 => ?_)
  obtain ⟨_, _, _, _, _, e1⟩ := (hK.2 2 _ rfl).2
  obtain ⟨_, _, _, _, _, e2⟩ := (hK1.2 3 _ rfl).2
  have e : cA = cy 2 := Option.some.inj (e2.symm.trans e1)
  subst e
  exact kk q H1 hP1 hD1 hS1
theorem cn_v {S : Type} {cc : ByteArray} {post : S → Prop} {w1 : S → va_W} {A : Nat → Prop} (u : S) (hp : post u) (hP : va_P g vwCl (w1 u) H) (hD : va_D A (w1 u)) (hS : va_S A s.heap H locs) (hexec : p.tables.exec = Jvm.exec) (hb : c.code = cc) (hr : meth.sig.returnType = none) (hdg : decode cc pc = .ok (.return_, 1)) (hlocks : meth.locks = false) :
    W p l e R s m args below meth c H locs cells slots (MQ below (cn_Q post w1 g A) args s cells slots A) (F0 m pc ls []) :=
  W.vret hexec hb hr (fun t ht _ => ⟨⟨u, rfl, hp, by rw [ht]; exact hP, hD⟩, hS.F ht⟩) hS.2.2 hdg hlocks
theorem pn {b : Nat} {As : List Value} {e0 : va_E} (hK : va_K g vwCl (Ty cy) s) (hP : va_P g vwCl (ws ++ [(b, e0)]) H) (hD : va_D A0 (ws ++ [(b, e0)])) (hS : va_S A0 s.heap H locs) (hA : ∀ q : Nat, s.heap.size ≤ q → A0 q) (hX : Cx A0 s s.heap) :
    PreS s H (va_Pc (.ref b :: As) (pr g cy [(b, e0)] H.size)) (.ref b :: As) := ps hK hP hD hS hA hX [ws.length] rfl at_last
theorem cn_call {S : Type} {post : S → Prop} {w1 : S → va_W} {q0 : Nat} {e0 : va_E} (hr : va_Run p l e R s m args below meth c H locs cells slots mc ms (F0 m pc ls st0) rest (cn_Q post w1 g (va_A [(q0, e0)] H.size) a) (va_A [(q0, e0)] H.size)) (hP : va_P g vwCl (ws ++ [(q0, e0)]) H) (hD : va_D A0 (ws ++ [(q0, e0)])) (hS : va_S A0 s.heap H locs) (hA : ∀ q : Nat, s.heap.size ≤ q → A0 q)
    (kk : ∀ (u : S) (H1 : Heap) (locs1 : List Loc), post u → va_P g vwCl (ws ++ w1 u) H1 → va_D A0 (ws ++ w1 u) → va_S A0 s.heap H1 locs1 → W p l e R s m args below meth c H1 locs1 (cells + mc) (slots + ms) Q (F0 m (pc + 3) ls rest)) : W p l e R s m args below meth c H locs cells slots Q (F0 m pc ls st0) := by
  have hF := va_free hD hS hA [ws.length] at_last
  intro T hT X
  obtain ⟨v', st₀, t, T', L, h0, X', hL, e1, e2, ⟨⟨u, hv, hp, hb, hd⟩, hz, hk⟩, st⟩ := hr T hT X
  cases hv
  rw [h0] at hz hk
  have hj := va_join (H1 := T'.heap) hP hD [ws.length] (List.range ws.length) at_last at_range (nd_range _) (fun i hi => by rw [List.mem_singleton]; have := List.mem_range.mp hi; omega) (fun q h1 h2 => by rw [e1]; exact hk q h1 h2) hF (by rw [e1]; exact hb) hd
  obtain ⟨t2, a1, b1⟩ := kk u T'.heap (locs ++ L) hp hj.1 hj.2
    ⟨Nat.le_trans hS.1 (by rw [e1]; exact hz), fun q h1 h2 => by rw [e1, hk q (Nat.lt_of_lt_of_le h1 hS.1) (fun z => h2 (hF q z))]; exact hS.2.1 q h1 h2, fun q hq => by
      rcases List.mem_append.mp hq with h | h
      · exact hS.2.2 q h
      · exact hF _ (hL q h)⟩ T' rfl X'
  exact ⟨t2, st t2 a1, b1⟩
/-- cells in another order -/
theorem sw_PD {L M T : va_W} (hP : va_P g vwCl (L ++ (M ++ T)) H) (hD : va_D A0 (L ++ (M ++ T))) : va_P g vwCl (L ++ (T ++ M)) H ∧ va_D A0 (L ++ (T ++ M)) := by
  have hm : ∀ q, q ∈ L ++ (T ++ M) → q ∈ L ++ (M ++ T) := fun q h => by
    simp only [List.mem_append] at h ⊢
    rcases h with h | h | h
    · exact Or.inl h
    · exact Or.inr (Or.inr h)
    · exact Or.inr (Or.inl h)
  refine ⟨fun k q h => ?_, ?_, fun k q h => ?_⟩
  · obtain ⟨k2, h2⟩ := List.getElem?_of_mem (hm q (List.mem_of_getElem? h))
    exact hP k2 q h2
  · have key : ∀ (i : Nat) (x : Nat × va_E), (L ++ (T ++ M))[i]? = some x → i < L.length + T.length + M.length ∧ (L ++ (M ++ T))[if i < L.length then i else if i < L.length + T.length then i + M.length else i - T.length]? = some x := by
      intro i x h
      have hl : i < L.length + T.length + M.length := by
        have := (List.getElem?_eq_some_iff.mp h).1
        simp only [List.length_append] at this
        omega
      refine ⟨hl, ?_⟩
      by_cases h1 : i < L.length
      · rw [if_pos h1, List.getElem?_append_left h1]
        rw [List.getElem?_append_left h1] at h
        exact h
      · rw [if_neg h1]
        rw [List.getElem?_append_right (by omega)] at h
        by_cases h2 : i < L.length + T.length
        · rw [if_pos h2, List.getElem?_append_right (by omega), List.getElem?_append_right (by omega), show i + M.length - L.length - M.length = i - L.length by omega]
          rw [List.getElem?_append_left (by omega)] at h
          exact h
        · rw [if_neg h2, List.getElem?_append_right (by omega), List.getElem?_append_left (by omega), show i - T.length - L.length = i - L.length - T.length by omega]
          rw [List.getElem?_append_right (by omega)] at h
          exact h
    intro i j x y hi hj hxy
    obtain ⟨a1, a2⟩ := key i x hi
    obtain ⟨b1, b2⟩ := key j y hj
    have := hD.1 _ _ x y a2 b2 hxy
    split at this <;> split at this <;> (try split at this) <;> (try split at this) <;> omega
  · obtain ⟨k2, h2⟩ := List.getElem?_of_mem (hm q (List.mem_of_getElem? h))
    exact hD.2 k2 q h2
/-- a loop that makes -/
theorem lp_ac {σ : Type} (I : σ → Heap → List Loc → Array Slot → Prop) (μ : σ → Nat) {fc fs : σ → Nat} (x0 : σ) (h0 : I x0 H locs ls)
    (step : ∀ (x : σ) (H : Heap) (locs : List Loc) (ls : Array Slot), I x H locs ls → (∀ (x' : σ) (H' : Heap) (locs' : List Loc) (ls' : Array Slot), I x' H' locs' ls' → μ x' < μ x → W p l e R s m args below meth c H' locs' (fc x') (fs x') Q (F0 m pc ls' [])) → W p l e R s m args below meth c H locs (fc x) (fs x) Q (F0 m pc ls [])) :
    W p l e R s m args below meth c H locs (fc x0) (fs x0) Q (F0 m pc ls []) := by
  have h : ∀ (n : Nat) (x : σ) (H : Heap) (locs : List Loc) (ls : Array Slot), μ x < n → I x H locs ls → W p l e R s m args below meth c H locs (fc x) (fs x) Q (F0 m pc ls []) := by
    intro n
    induction n with
    | zero => intro x H locs ls h; exact absurd h (Nat.not_lt_zero _)
    | succ n ih => intro x H locs ls hx hI; exact step x H locs ls hI (fun x' H' locs' ls' h1 h2 => ih x' H' locs' ls' (by omega) h1)
  exact h _ x0 H locs ls (Nat.lt_succ_self _) h0
end MK
def bd0 : BdR := (z9, 0, (fun _ => 0), (fun _ => 0), (fun _ => 0), (fun _ => 0), (fun _ => 0), (fun _ => 0))
def paS (pa : Nat → Nat → Nat) (i : Nat) (ad : Nat → Nat) : Nat → Nat → Nat := fun k => if k = i then ad else pa k
theorem pool_c {cy : Nat → ClassId} {pa pb : Nat → Nat → Nat} {R : Nat → BdR} : ∀ n, (∀ k, k < n → pa k = pb k) → pool cy pa n R = pool cy pb n R
  | 0, _ => rfl
  | n + 1, h => by
    show pool cy pa n R ++ bdl cy (pa n) (R n) = pool cy pb n R ++ bdl cy (pb n) (R n)
    rw [pool_c n (fun k hk => h k (by omega)), h n (Nat.lt_succ_self _)]
theorem pool_snoc {cy : Nat → ClassId} {pa : Nat → Nat → Nat} {ad : Nat → Nat} {i : Nat} : pool cy pa i (fun _ => bd0) ++ bdl cy ad bd0 = pool cy (paS pa i ad) (i + 1) (fun _ => bd0) := by
  show _ = pool cy (paS pa i ad) i (fun _ => bd0) ++ bdl cy (paS pa i ad i) bd0
  rw [pool_c i (pb := paS pa i ad) (fun k hk => (if_neg (by omega)).symm), show paS pa i ad i = ad from if_pos rfl]
def paF (pa : Nat → Nat → Nat) (i : Nat) : Nat → Option Nat := fun j => if j < i then some (pa j 0) else none
theorem paF_s {pa : Nat → Nat → Nat} {ad : Nat → Nat} {i : Nat} : va_up (paF pa i) i (some (ad 0)) = paF (paS pa i ad) (i + 1) := by
  funext j
  unfold paF paS va_up
  by_cases h : j = i
  · subst h
    simp
  · have h2 : j < i + 1 ↔ j < i := by omega
    simp [h, h2]
theorem paF_0 {pa : Nat → Nat → Nat} : (fun _ => none) = paF pa 0 := by
  funext j
  simp [paF]
