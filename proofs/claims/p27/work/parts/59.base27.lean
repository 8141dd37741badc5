/-! P27: answers as numbers, contracts of methods without handlers, what is refused and what is not. -/
def kc (k : Nat) : Int32 := if k = 1 then -9999001 else if k = 2 then -9999002 else -9999003
/-- what a helper answers: the call's answer, or the code of what was thrown -/
def an (fx : Nat) (v : Int32) : Int32 := if fx = 0 then v else kc fx
theorem an_0 {fx : Nat} {v : Int32} (h : fx = 0) : an fx v = v := if_pos h
theorem an_k {fx k : Nat} {v : Int32} (h : fx = k) (hk : k ≠ 0) : an fx v = kc k := by
  subst h
  exact if_neg hk
theorem mt_p {l : Launch} {g : va_G} {cy : Nat → ClassId} {y : MethodName} {rm : Room} {av : List Value} {W0 : va_W} {sz : Nat} {Qc : Array Value → State → Outcome → State → Prop} {mc ms : Nat} {free : Addr → Prop} {cc : ByteArray} {maxL : Nat} {ret : Option FieldType}
    (hy : plainName y.cls = true) (hlen : (lg_sl av).length ≤ maxL)
    (body : ∀ (p : Program) (e : Env) (s : State) (m : MethodId) (below : List Frame) (meth : Method) (c : Code) (ls : Array Slot) (A : Nat → Prop), p.tables.exec = Jvm.exec → c.code = cc → meth.sig.returnType = ret → c.maxLocals = maxL → s.vm.findClass y.cls = some m.cls → (∀ w ∈ wsL_law, w.before av.toArray s = true) → meth.locks = false →
      s.heap.size = sz → A = va_A W0 sz → (∀ q : Nat, s.heap.size ≤ q → A q) → va_P g vwCl W0 s.heap → va_D A W0 → va_K g vwCl (Ty cy) s → Cx A s s.heap → Cy s → lv_has ls maxL (lv_args 0 av) →
      W p l e rm s m av.toArray below meth c s.heap [] 0 0 (MQ below Qc av.toArray s mc ms free) (F0 m 0 ls [])) : Met l y (Cond.code y cc maxL ret :: wsL_law) rm (va_Pc av (pr2 g cy W0 sz)) Qc mc ms free := by
  refine Met.ofW (cc := cc) (maxL := maxL) (ret := ret) hy rfl ?_
  intro p e s m args below meth c s₁ B hml hv
  obtain ⟨rfl, ⟨hsz, hP, hK, hD0, hX⟩, hY⟩ := hv
  have hD : va_D (va_A W0 sz) W0 := hD0.self
  rw [lg_entry_eq]
  exact body p e s m below meth c _ (va_A W0 sz) B.exec B.bytes B.returns hml (findClass_of_methodNamed B.named) (fun w h => atoms_spec (ws := Cond.code y cc maxL ret :: wsL_law) B.pre w (List.mem_cons_of_mem _ h)) B.notSynchronized hsz rfl (fun q h => Or.inr (by rw [← hsz]; exact h)) hP hD hK hX hY (lv_entry av hlen)
theorem hl_in {idx n : Nat} {y : MethodName} {bytes : ByteArray} {r : Option FieldType} {hh : List (Nat × Nat × Nat × Nat)} (h1 : Cond.codeWith y bytes n r hh ∈ wsL_law) (h2 : Cond.initialized y.cls ∈ wsL_law) (h3 : Cond.methodLink RL idx y ∈ wsL_law) (h4 : Cond.static y ∈ wsL_law) : GoodIn wsL_law (va_wsS RL idx y (Cond.codeWith y bytes n r hh :: wsL_law)) := by
  intro w hw
  unfold va_wsS at hw
  rcases List.mem_append.mp hw with h | h
  · simp only [List.mem_cons, List.not_mem_nil, or_false] at h
    rcases h with rfl | rfl | rfl
    · exact bg_in _ h3
    · exact bg_in _ h4
    · exact bg_in _ h2
  · rcases List.mem_cons.mp h with rfl | h
    · exact bg_in _ h1
    · exact bg_in _ h
theorem fI_mono {a c : Nat} {q : Sc} {σ : Nat → Nat} {Hh : Nat → Nat → Nat} {n : Nat} {K : Nat → Nat → Nat} {fl : Nat → Bool} {tx : Nat → Nat} {ln : Nat} (h : fI a q σ Hh n K fl tx ln) (h1 : a ≤ c) (h2 : c ≤ 100000) : fI c q σ Hh n K fl tx ln := by
  obtain ⟨b, rt, o, R, r0, r1, p, lt, pt, pn⟩ := q
  obtain ⟨hwf, hbr, ho, hn, hH, hK0, hK1, htx, hln⟩ := h
  exact ⟨WF_mono hwf h1 h2, hbr, ho, hn, fun k hk => isB_mono (hH k hk) h1 h2, fun e => isB_mono (hK0 e) h1 h2, fun e => isB_mono (hK1 e) h1 h2, htx, hln⟩
theorem fI_wf {bd : Nat} {q : Sc} {σ : Nat → Nat} {Hh : Nat → Nat → Nat} {n : Nat} {K : Nat → Nat → Nat} {fl : Nat → Bool} {tx : Nat → Nat} {ln : Nat} (h : fI bd q σ Hh n K fl tx ln) : WF bd σ := h.1
theorem fI_n {bd : Nat} {q : Sc} {σ : Nat → Nat} {Hh : Nat → Nat → Nat} {n : Nat} {K : Nat → Nat → Nat} {fl : Nat → Bool} {tx : Nat → Nat} {ln : Nat} (h : fI bd q σ Hh n K fl tx ln) : n ≤ 14 := h.2.2.2.1
theorem fI_und {bd : Nat} {q : Sc} {σ : Nat → Nat} {Hh : Nat → Nat → Nat} {n : Nat} {K : Nat → Nat → Nat} {fl : Nat → Bool} {tx : Nat → Nat} {ln : Nat} (h : fI bd q σ Hh n K fl tx ln) : ∀ k, k < n → WF bd (Hh k) := by
  obtain ⟨b, rt, o, R, r0, r1, p, lt, pt, pn⟩ := q
  obtain ⟨hwf, hbr, ho, hn, hH, hK0, hK1, htx, hln⟩ := h
  exact fun k h1 => (hH k h1).1
theorem fI_kep {bd : Nat} {q : Sc} {σ : Nat → Nat} {Hh : Nat → Nat → Nat} {n : Nat} {K : Nat → Nat → Nat} {fl : Nat → Bool} {tx : Nat → Nat} {ln : Nat} (h : fI bd q σ Hh n K fl tx ln) : ∀ k, k < 2 → fl k = true → WF bd (K k) := by
  obtain ⟨b, rt, o, R, r0, r1, p, lt, pt, pn⟩ := q
  obtain ⟨hwf, hbr, ho, hn, hH, hK0, hK1, htx, hln⟩ := h
  intro k hk e
  rcases (show k = 0 ∨ k = 1 by omega) with rfl | rfl
  · exact (hK0 e).1
  · exact (hK1 e).1
/-- a new object -/
theorem fI_new {b1 : Nat → Nat → Int32} {Hh K : Nat → Nat → Nat} : fI 0 (b1, bd0, 0, (fun _ => bd0), bd0, bd0, 0, 0, z9, 0) newS Hh 0 K (fun _ => false) z9 0 :=
  ⟨WF_newS, BR_newS, Nat.zero_lt_succ _, Nat.zero_le _, fun k hk => absurd hk (Nat.not_lt_zero _), fun e => Bool.noConfusion e, fun e => Bool.noConfusion e, fun _ => (by show 0 < 256; decide), Nat.zero_le _⟩
-- numbers out of a range
theorem nI_neg {m : Nat} (h1 : 2 ^ 31 ≤ m) (h2 : m < 2 ^ 32) : (nI m).toInt < 0 := by
  have e := BitVec.toInt_eq_toNat_cond (nI m).toBitVec
  rw [pk_tn h2, if_neg (by omega)] at e
  show (nI m).toBitVec.toInt < 0
  rw [e]
  omega
theorem in_f {m lo h : Nat} (hm : m < lo ∨ h < m) (h2 : m < 2 ^ 32) (hh : h < 2 ^ 31) (hl : lo < 2 ^ 31) : inR (nI m) (nI lo) (nI h) = false := by
  unfold inR
  by_cases c : m < 2 ^ 31
  · rcases hm with hm | hm
    · have q : nI m < nI lo := (nI_ltI c hl).mpr hm
      simp [q]
    · have q : nI h < nI m := (nI_ltI hh c).mpr hm
      simp [q]
  · have q : nI m < nI lo := by
      rw [Int32.lt_iff_toInt_lt, nI_toInt hl]
      have := nI_neg (by omega) h2
      omega
    simp [q]
theorem in_t {m lo h : Nat} (h1 : lo ≤ m) (h2 : m ≤ h) (hh : h < 2 ^ 31) : inR (nI m) (nI lo) (nI h) = true := by
  rw [inR_n (by omega) (by omega) hh]
  simp [h1, h2]
theorem ha_f {c m : Nat} (hm : c ≤ m) (h2 : m < 2 ^ 32) (hc : c < 2 ^ 31) : hasR c (nI m) = false := by
  unfold hasR
  by_cases q : m < 2 ^ 31
  · have q9 : nI c ≤ nI m := (nI_leI hc q).mpr hm
    simp [q9]
  · have q9 : nI m < 0 := by
      rw [Int32.lt_iff_toInt_lt, Int32.toInt_zero]
      exact nI_neg (by omega) h2
    simp [q9]
theorem ha_t {c m : Nat} (hm : m < c) (hc : c < 2 ^ 31) : hasR c (nI m) = true := by
  rw [hasR_n (by omega) hc]
  simp [hm]
theorem bf {b : Bool} (h : b = false) : ¬ b = true := by rw [h]; exact Bool.false_ne_true
section FA
variable {σ : Nat → Nat} {a b c d f h k m n o p r s v w : Nat} {x y z u : Int32} {fl : Nat → Bool}
theorem fApp_2 (h1 : 255 < m) (h2 : m < 2 ^ 32) : fApp (nI m) n = 2 := if_neg (bf (in_f (Or.inr h1) h2 (by decide) (by decide)))
theorem fAbo_2 (h1 : 10 < w) (h2 : w < 2 ^ 32) : fAbo (nI w) = 2 := if_neg (bf (in_f (Or.inr h1) h2 (by decide) (by decide)))
theorem fAbo_0 (h1 : w ≤ 10) : fAbo (nI w) = 0 := if_pos (in_t (Nat.zero_le _) h1 (by decide))
theorem fDog_1 (hn : σ 0 ≤ 6) (h1 : σ 0 ≤ d) (h2 : d < 2 ^ 32) : fDog σ (nI d) x = 1 := if_neg (bf (ha_f h1 h2 (by omega)))
theorem fDog_2 (hn : σ 0 ≤ 6) (h0 : d < σ 0) (h1 : 10 < w) (h2 : w < 2 ^ 32) : fDog σ (nI d) (nI w) = 2 := by
  unfold fDog
  rw [if_pos (ha_t h0 (by omega)), if_neg (bf (in_f (Or.inr h1) h2 (by decide) (by decide)))]
theorem fDog_0 (hn : σ 0 ≤ 6) (h0 : d < σ 0) (h1 : w ≤ 10) : fDog σ (nI d) (nI w) = 0 := by
  unfold fDog
  rw [if_pos (ha_t h0 (by omega)), if_pos (in_t (Nat.zero_le _) h1 (by decide))]
theorem fSig_1 (hn : σ 1 ≤ 20) (h1 : σ 1 ≤ d) (h2 : d < 2 ^ 32) : fSig σ (nI d) x = 1 := if_neg (bf (ha_f h1 h2 (by omega)))
theorem fSig_2 (hn : σ 1 ≤ 20) (h0 : d < σ 1) (h1 : 8 < w) (h2 : w < 2 ^ 32) : fSig σ (nI d) (nI w) = 2 := by
  unfold fSig
  rw [if_pos (ha_t h0 (by omega)), if_neg (bf (in_f (Or.inr h1) h2 (by decide) (by decide)))]
theorem fSig_0 (hn : σ 1 ≤ 20) (h0 : d < σ 1) (h1 : w ≤ 8) : fSig σ (nI d) (nI w) = 0 := by
  unfold fSig
  rw [if_pos (ha_t h0 (by omega)), if_pos (in_t (Nat.zero_le _) h1 (by decide))]
theorem fPur_1 (h1 : 7 < f) (h2 : f < 2 ^ 32) : fPur (nI f) = 1 := if_neg (bf (in_f (Or.inr h1) h2 (by decide) (by decide)))
theorem fPur_0 (h1 : f < 8) : fPur (nI f) = 0 := if_pos (in_t (Nat.zero_le _) (by omega) (by decide))
theorem fApa_1a (h1 : 11 < a) (h2 : a < 2 ^ 32) : fApa (nI a) x y = 1 := if_neg (by rw [in_f (Or.inr h1) h2 (by decide) (by decide), Bool.false_and]; exact Bool.false_ne_true)
theorem fApa_1b (h1 : 11 < b) (h2 : b < 2 ^ 32) : fApa x (nI b) y = 1 := if_neg (by rw [in_f (m := b) (Or.inr h1) h2 (by decide) (by decide), Bool.and_false]; exact Bool.false_ne_true)
theorem fApa_2 (ha : a < 12) (hb : b < 12) (h1 : 1 < w) (h2 : w < 2 ^ 32) : fApa (nI a) (nI b) (nI w) = 2 := by
  unfold fApa
  rw [in_t (m := a) (Nat.zero_le _) (by omega) (by decide), in_t (m := b) (Nat.zero_le _) (by omega) (by decide), Bool.and_self, if_pos rfl, if_neg (bf (in_f (Or.inr h1) h2 (by decide) (by decide)))]
theorem fApa_0 (ha : a < 12) (hb : b < 12) (h1 : w ≤ 1) : fApa (nI a) (nI b) (nI w) = 0 := by
  unfold fApa
  rw [in_t (m := a) (Nat.zero_le _) (by omega) (by decide), in_t (m := b) (Nat.zero_le _) (by omega) (by decide), Bool.and_self, if_pos rfl, if_pos (in_t (Nat.zero_le _) h1 (by decide))]
theorem fLose_1 (h1 : 11 < c) (h2 : c < 2 ^ 32) : fLose σ x y (nI c) z = 1 := if_neg (bf (in_f (Or.inr h1) h2 (by decide) (by decide)))
theorem fLose_2 (hc : c < 12) (h1 : (inR x (nI 1) (nI 255) && (inR y (nI 1) (nI 3) && inR z (nI 1) (nI 500))) = false) : fLose σ x y (nI c) z = 2 := by
  unfold fLose
  rw [if_pos (in_t (Nat.zero_le _) (by omega) (by decide)), h1]
  rfl
theorem fLose_2a (h1 : m < 1 ∨ 255 < m) (h2 : m < 2 ^ 32) : fLose σ (nI m) y (nI 0) z = 2 := fLose_2 (by decide) (by rw [in_f h1 h2 (by decide) (by decide), Bool.false_and])
theorem fLose_2b (h1 : p < 1 ∨ 3 < p) (h2 : p < 2 ^ 32) : fLose σ x (nI p) (nI 0) z = 2 := fLose_2 (by decide) (by rw [in_f (m := p) h1 h2 (by decide) (by decide), Bool.false_and, Bool.and_false])
theorem fLose_2c (h1 : r < 1 ∨ 500 < r) (h2 : r < 2 ^ 32) : fLose σ x y (nI 0) (nI r) = 2 := fLose_2 (by decide) (by rw [in_f (m := r) h1 h2 (by decide) (by decide), Bool.and_false, Bool.and_false])
theorem fLose_in (hm : 1 ≤ m) (hm2 : m ≤ 255) (hp : 1 ≤ p) (hp2 : p ≤ 3) (hc : c < 12) (hr : 1 ≤ r) (hr2 : r ≤ 500) : fLose σ (nI m) (nI p) (nI c) (nI r) = if 6 ≤ σ 0 then 3 else 0 := by
  unfold fLose
  rw [if_pos (in_t (Nat.zero_le _) (by omega) (by decide)), in_t hm hm2 (by decide), in_t hp hp2 (by decide), in_t hr hr2 (by decide)]
  rfl
theorem fTell_1a (h1 : 7 < f) (h2 : f < 2 ^ 32) : fTell σ (nI f) x y z = 1 := if_neg (by rw [in_f (Or.inr h1) h2 (by decide) (by decide), Bool.false_and]; exact Bool.false_ne_true)
theorem fTell_1b (h1 : 11 < c) (h2 : c < 2 ^ 32) : fTell σ x (nI c) y z = 1 := if_neg (by rw [in_f (m := c) (Or.inr h1) h2 (by decide) (by decide), Bool.and_false]; exact Bool.false_ne_true)
theorem fTell_2 (hf : f < 8) (hc : c < 12) (h1 : (inR x (nI 0) (nI 255) && (inR y (nI 0) (nI 99) && !decide (nI (σ 2) < y))) = false) : fTell σ (nI f) (nI c) x y = 2 := by
  unfold fTell
  rw [in_t (m := f) (Nat.zero_le _) (by omega) (by decide), in_t (m := c) (Nat.zero_le _) (by omega) (by decide), Bool.and_self, if_pos rfl, h1]
  rfl
theorem fTell_2a (h1 : 255 < m) (h2 : m < 2 ^ 32) : fTell σ (nI 0) (nI 0) (nI m) y = 2 := fTell_2 (by decide) (by decide) (by rw [in_f (m := m) (Or.inr h1) h2 (by decide) (by decide), Bool.false_and])
theorem fTell_2b (h1 : 99 < a) (h2 : a < 2 ^ 32) : fTell σ (nI 0) (nI 0) x (nI a) = 2 := fTell_2 (by decide) (by decide) (by rw [in_f (m := a) (Or.inr h1) h2 (by decide) (by decide), Bool.false_and, Bool.and_false])
theorem fTell_in (hf : f < 8) (hc : c < 12) (hm : m ≤ 255) (ha : a ≤ 99) (hh : σ 2 < 2 ^ 31) : fTell σ (nI f) (nI c) (nI m) (nI a) = if a ≤ σ 2 then (if 20 ≤ σ 1 then 3 else 0) else 2 := by
  unfold fTell
  rw [in_t (m := f) (Nat.zero_le _) (by omega) (by decide), in_t (m := c) (Nat.zero_le _) (by omega) (by decide), Bool.and_self, if_pos rfl, in_t (m := m) (Nat.zero_le _) hm (by decide), in_t (m := a) (Nat.zero_le _) ha (by decide), Bool.true_and, Bool.true_and]
  by_cases q : a ≤ σ 2
  · rw [if_pos q, decide_eq_false (nI_nlt q hh)]
    rfl
  · rw [if_neg q, decide_eq_true (nI_lt (by omega) (by omega))]
    rfl
theorem fAsk_1 (hn : σ 0 ≤ 6) (h1 : σ 0 ≤ d) (h2 : d < 2 ^ 32) : fAsk σ (nI d) = 1 := if_neg (bf (ha_f h1 h2 (by omega)))
theorem fAsk_in (hn : σ 0 ≤ 6) (h1 : d < σ 0) : fAsk σ (nI d) = if msg σ d then 0 else 3 := by
  unfold fAsk
  rw [if_pos (ha_t h1 (by omega)), nI_clamp (by omega)]
theorem fFind_1b (h1 : 7 < f) (h2 : f < 2 ^ 32) : fFind σ x (nI f) y = 1 := if_neg (by rw [in_f (Or.inr h1) h2 (by decide) (by decide), Bool.false_and]; exact Bool.false_ne_true)
theorem fFind_1c (h1 : 11 < c) (h2 : c < 2 ^ 32) : fFind σ x y (nI c) = 1 := if_neg (by rw [in_f (m := c) (Or.inr h1) h2 (by decide) (by decide), Bool.and_false]; exact Bool.false_ne_true)
theorem fFind_in (hf : f < 8) (hc : c < 12) : fFind σ x (nI f) (nI c) = fAsk σ x := by
  unfold fFind
  rw [in_t (m := f) (Nat.zero_le _) (by omega) (by decide), in_t (m := c) (Nat.zero_le _) (by omega) (by decide)]
  rfl
theorem fIff_1d (h1 : 7 < o) (h2 : o < 2 ^ 32) : fIff σ x y z (nI o) = 1 := if_neg (bf (in_f (Or.inr h1) h2 (by decide) (by decide)))
theorem fIff_in (ho : o < 8) : fIff σ x y z (nI o) = fFind σ x y z := if_pos (in_t (Nat.zero_le _) (by omega) (by decide))
theorem fClose_1a (h1 : 11 < a) (h2 : a < 2 ^ 32) : fClose (nI a) x = 1 := if_neg (by rw [in_f (Or.inr h1) h2 (by decide) (by decide), Bool.false_and]; exact Bool.false_ne_true)
theorem fClose_1b (h1 : 11 < b) (h2 : b < 2 ^ 32) : fClose x (nI b) = 1 := if_neg (by rw [in_f (m := b) (Or.inr h1) h2 (by decide) (by decide), Bool.and_false]; exact Bool.false_ne_true)
theorem fClose_in (ha : a < 12) (hb : b < 12) : fClose (nI a) (nI b) = if sbt a b 17 = NN then 2 else 0 := by
  unfold fClose
  rw [in_t (m := a) (Nat.zero_le _) (by omega) (by decide), in_t (m := b) (Nat.zero_le _) (by omega) (by decide), Bool.and_self, if_pos rfl, nI_clamp (by omega), nI_clamp (by omega)]
theorem sbt_cc : ∀ c, c < 12 → sbt c c 17 = NN := by decide +kernel
theorem sbt_0k : ∀ k, k < 7 → sbt 0 (5 + k) 17 = NN := by decide +kernel
theorem sbt_a4 : ∀ a, a < 8 → ¬ sbt a (a + 4) 17 = NN := by decide +kernel
theorem fPass_2 (h1 : n < 1 ∨ 99 < n) (h2 : n < 2 ^ 32) : fPass (nI n) = 2 := if_neg (bf (in_f h1 h2 (by decide) (by decide)))
theorem fPass_1 (h1 : 1 ≤ n) (h2 : n ≤ 99) : fPass (nI n) = 0 := if_pos (in_t h1 h2 (by decide))
theorem fSet_2a (h1 : 50 < v) (h2 : v < 2 ^ 32) : fSet (nI 0) (nI v) = 2 := by
  unfold fSet
  rw [in_f (m := v) (h := 50) (Or.inr h1) h2 (by decide) (by decide), in_f (m := v) (h := 8) (Or.inr (by omega)) h2 (by decide) (by decide)]
  simp
theorem fSet_2b (h1 : 8 < v) (h2 : v < 2 ^ 32) : fSet (nI 1) (nI v) = 2 := by
  unfold fSet
  rw [in_f (m := v) (h := 8) (Or.inr h1) h2 (by decide) (by decide), show decide (nI 1 = 0) = false from by decide]
  simp
theorem fSet_2c (h1 : 2 ≤ w) (h2 : w < 2 ^ 31) : fSet (nI w) x = 2 := by
  have e0 : decide (nI w = 0) = false := decide_eq_false (nI_ne0 (by omega) h2)
  have e1 : decide (nI w = nI 1) = false := decide_eq_false (fun q => by have := (nI_eq h2 (by decide)).mp q; omega)
  unfold fSet
  rw [e0, e1]
  simp
theorem fSet_0a (h1 : v ≤ 50) : fSet (nI 0) (nI v) = 0 := by
  unfold fSet
  rw [in_t (m := v) (h := 50) (Nat.zero_le _) h1 (by decide), show decide (nI 0 = 0) = true from by decide]
  rfl
theorem fSet_0b (h1 : v ≤ 8) : fSet (nI 1) (nI v) = 0 := by
  unfold fSet
  rw [in_t (m := v) (h := 8) (Nat.zero_le _) h1 (by decide), show decide (nI 1 = nI 1) = true from by decide, Bool.and_self, Bool.or_true]
  rfl
theorem fMea_2 (h1 : 255 < m) (h2 : m < 2 ^ 32) : fMea (nI m) = 2 := if_neg (bf (in_f (Or.inr h1) h2 (by decide) (by decide)))
theorem fMea_0 (h1 : m ≤ 255) : fMea (nI m) = 0 := if_pos (in_t (Nat.zero_le _) h1 (by decide))
theorem fSlo_1 (h1 : 2 ≤ s) (h2 : s < 2 ^ 32) : fSlo (nI s) = 1 := if_neg (bf (ha_f h1 h2 (by decide)))
theorem fSlo_0 (h1 : s < 2) : fSlo (nI s) = 0 := if_pos (ha_t h1 (by decide))
theorem fRes_1 (h1 : 2 ≤ s) (h2 : s < 2 ^ 32) : fRes fl (nI s) = 1 := if_neg (bf (ha_f h1 h2 (by decide)))
theorem fRes_in (h1 : s < 2) : fRes fl (nI s) = if fl s then 0 else 3 := by
  unfold fRes
  rw [if_pos (ha_t h1 (by decide)), nI_clamp (by omega)]
theorem fSim_2 (h1 : m < 1 ∨ 60 < m) (h2 : m < 2 ^ 32) : fSim (nI m) = 2 := if_neg (bf (in_f h1 h2 (by decide) (by decide)))
theorem fSim_0 (h1 : 1 ≤ m) (h2 : m ≤ 60) : fSim (nI m) = 0 := if_pos (in_t h1 h2 (by decide))
theorem fRun_2a {sc : Int64} : fRun (nI 0) sc = 2 := if_neg (bf (in_f (Or.inl (by decide)) (by decide) (by decide) (by decide)))
theorem fRun_2b (h : k < 2 ^ 31) : fRun (nI 1) ((1000000 : Int64) + (nI k).toInt64) = 2 := by
  have e : (1000000 : Int64) + (nI k).toInt64 = lN (1000000 + k) := by
    rw [nI_l h]
    exact lN_add 1000000 k
  have q : ¬ lN (1000000 + k) < uI 1 := by
    show ¬ lN (1000000 + k) < lN (1000000 ^ 1)
    rw [pk_lLT (by omega) (by decide)]
    omega
  unfold fRun
  rw [if_pos (in_t (by decide) (by decide) (by decide)), e, nI_clamp (by decide), decide_eq_false q, Bool.not_false, Bool.or_true]
  rfl
-- what reading calls answer
theorem v_ab (h1 : w ≤ 10) : an (fAbo (nI w)) (nI (nbd σ (nI w).toNatClampNeg)) = nI (nbd σ w) := by rw [an_0 (fAbo_0 h1), nI_clamp (by omega)]
theorem v_dg (hn : σ 0 ≤ 6) (h0 : d < σ 0) (h1 : w ≤ 10) : an (fDog σ (nI d) (nI w)) (nI (ndg σ (nI d).toNatClampNeg (nI w).toNatClampNeg)) = nI (ndg σ d w) := by rw [an_0 (fDog_0 hn h0 h1), nI_clamp (by omega), nI_clamp (by omega)]
theorem v_sg (hn : σ 1 ≤ 20) (h0 : d < σ 1) (h1 : w ≤ 8) : an (fSig σ (nI d) (nI w)) (nI (nsg σ (nI d).toNatClampNeg (nI w).toNatClampNeg)) = nI (nsg σ d w) := by rw [an_0 (fSig_0 hn h0 h1), nI_clamp (by omega), nI_clamp (by omega)]
theorem v_pu (h0 : f < 8) : an (fPur (nI f)) (nI (σ (8 + (nI f).toNatClampNeg))) = nI (σ (8 + f)) := by rw [an_0 (fPur_0 h0), nI_clamp (by omega)]
theorem v_ap (ha : a < 12) (hb : b < 12) (h1 : w ≤ 1) : an (fApa (nI a) (nI b) (nI w)) (wv σ (12 * (nI a).toNatClampNeg + (nI b).toNatClampNeg)) = wv σ (12 * a + b) := by rw [an_0 (fApa_0 ha hb h1), nI_clamp (by omega), nI_clamp (by omega)]
theorem v_cb (hn : σ 0 ≤ 6) (h0 : d < σ 0) (hm : msg σ d = true) : an (fAsk σ (nI d)) (nI (mk (cbe σ (nI d).toNatClampNeg) 12)) = nI (mk (cbe σ d) 12) := by rw [an_0 (by rw [fAsk_in hn h0, hm]; rfl), nI_clamp (by omega)]
theorem v_me (h1 : m ≤ 255) : an (fMea (nI m)) (nI (mea σ (nI m).toNatClampNeg (σ 2))) = nI (mea σ m (σ 2)) := by rw [an_0 (fMea_0 h1), nI_clamp (by omega)]
theorem v_if (hn : σ 0 ≤ 6) (h0 : d < σ 0) (hm : msg σ d = true) (hf : f < 8) (hc : c < 12) (ho : o < 8) : an (fIff σ (nI d) (nI f) (nI c) (nI o)) (nI (shr σ (nI d).toNatClampNeg (nI f).toNatClampNeg (nI c).toNatClampNeg (nI o).toNatClampNeg)) = nI (shr σ d f c o) := by
  rw [an_0 (by rw [fIff_in ho, fFind_in hf hc, fAsk_in hn h0, hm]; rfl), nI_clamp (by omega), nI_clamp (by omega), nI_clamp (by omega), nI_clamp (by omega)]
end FA
/-- -1 less k % m, or so much more than e -/
def ng (x e k : Nat) : Nat := if x % 2 = 0 then NN - x % k else e + x % k
theorem ng_e {x e k : Nat} (h : x % 2 = 0) : nI (NN - x % k) = nI (ng x e k) := by unfold ng; rw [if_pos h]
theorem ng_o {x e k : Nat} (h : ¬ x % 2 = 0) : nI (e + x % k) = nI (ng x e k) := by unfold ng; rw [if_neg h]
theorem ng_b {x e k : Nat} (he : e ≤ 1000) (hk : 0 < k) (hk2 : k ≤ 1000) : e ≤ ng x e k ∧ ng x e k < 2 ^ 32 := by
  have := Nat.mod_lt x hk
  unfold ng NN
  split <;> omega
/-- m, or so much more than e -/
def zg (x m e k : Nat) : Nat := if x % 2 = 0 then m else e + x % k
theorem zg_e {x m e k : Nat} (h : x % 2 = 0) : nI m = nI (zg x m e k) := by unfold zg; rw [if_pos h]
theorem zg_o {x m e k : Nat} (h : ¬ x % 2 = 0) : nI (e + x % k) = nI (zg x m e k) := by unfold zg; rw [if_neg h]
theorem zg_b {x m e k : Nat} (he : e ≤ 1000) (hk : 0 < k) (hk2 : k ≤ 1000) (hm : m < 2 ^ 32) : (zg x m e k = m ∨ e ≤ zg x m e k) ∧ zg x m e k < 2 ^ 32 := by
  have := Nat.mod_lt x hk
  unfold zg
  split <;> omega
