/-! BASE: what every later part stands on: 0 and 1, the things that every method may take for granted (Cx), contracts that read alone (rd_Q), contracts that write (wr_Q), calls, loops, joins. -/
def bI (b : Bool) : Int32 := if b then 1 else 0
theorem bI_t : bI true = 1 := rfl
theorem bI_f : bI false = 0 := rfl
theorem bI_eq0 {b : Bool} : bI b = 0 ↔ b = false := by cases b <;> decide
theorem bI_ne0 {b : Bool} : ¬ bI b = 0 ↔ b = true := by cases b <;> decide
theorem bI_nar (b : Bool) : narrow .boolean (.int (bI b)) = .int (bI b) := by cases b <;> rfl
theorem bI_vpnar (b : Bool) : vp_nar .boolean (bI b) = bI b := by cases b <;> rfl
theorem nI_o : nI 1 = 1 := rfl
theorem nz_eq {a : Nat} (c : nI a = 0) (h : a < 2 ^ 31) : a = 0 := (nI_eq h (by omega : 0 < 2 ^ 31)).mp c
theorem nz_ne {a : Nat} (c : ¬ nI a = 0) (_ : a < 2 ^ 31) : a ≠ 0 := fun e => c (by rw [e]; rfl)
theorem nz_gt {a : Nat} (c : 0 < nI a) (h : a < 2 ^ 31) : 0 < a := (nI_ltI (by omega : 0 < 2 ^ 31) h).mp c
theorem nz_le {a : Nat} (c : ¬ 0 < nI a) (h : a < 2 ^ 31) : a = 0 := by
  have h1 : ¬ 0 < a := fun e => c ((nI_ltI (by omega : 0 < 2 ^ 31) h).mpr e)
  omega
theorem nz_le' {a : Nat} (c : nI a ≤ 0) (h : a < 2 ^ 31) : a = 0 := by
  have h1 : a ≤ 0 := (nI_leI h (by omega : 0 < 2 ^ 31)).mp c
  omega
theorem nz_gt' {a : Nat} (c : ¬ nI a ≤ 0) (h : a < 2 ^ 31) : 0 < a := by
  have h1 : ¬ a ≤ 0 := fun e => c ((nI_leI h (by omega : 0 < 2 ^ 31)).mpr e)
  omega
theorem nc_eq {a b : Nat} (ha : a < 2 ^ 31) (hb : b < 2 ^ 31) (c : nI a = nI b) : a = b := (nI_eq ha hb).mp c
theorem nc_ne {a b : Nat} (_ : a < 2 ^ 31) (_ : b < 2 ^ 31) (c : ¬ nI a = nI b) : a ≠ b := fun e => c (by rw [e])
theorem nc_lt {a b : Nat} (ha : a < 2 ^ 31) (hb : b < 2 ^ 31) (c : nI a < nI b) : a < b := (nI_ltI ha hb).mp c
theorem nc_nlt {a b : Nat} (ha : a < 2 ^ 31) (hb : b < 2 ^ 31) (c : ¬ nI a < nI b) : b ≤ a := Nat.not_lt.mp fun e => c ((nI_ltI ha hb).mpr e)
theorem nc_le {a b : Nat} (ha : a < 2 ^ 31) (hb : b < 2 ^ 31) (c : nI a ≤ nI b) : a ≤ b := (nI_leI ha hb).mp c
theorem nc_nle {a b : Nat} (ha : a < 2 ^ 31) (hb : b < 2 ^ 31) (c : ¬ nI a ≤ nI b) : b < a := Nat.not_le.mp fun e => c ((nI_leI ha hb).mpr e)
theorem rowN {x : Int32} {n : Nat} (hn : n < 2 ^ 31) (h1 : ¬ x < 0) (h2 : ¬ nI n ≤ x) : ∃ j : Nat, j < n ∧ x = nI j := by
  rcases pk_ix x hn with h | h | h
  · exact absurd h h1
  · exact absurd h h2
  · exact h
theorem ix_lt {j cnt mo wi fd nn : Nat} (hj : j < cnt) (hc : cnt ≤ mo) (hf : fd < wi) (hn : mo * wi = nn) : j * wi + fd < nn := by
  have h1 : (j + 1) * wi ≤ mo * wi := Nat.mul_le_mul_right wi (by omega)
  rw [Nat.add_mul] at h1
  omega
theorem sw_tab (lo n : Nat) (hn : lo + n < 2 ^ 31) (x : Int32) : (x.toInt < lo ∨ (lo : Int) + n ≤ x.toInt) ∨ ∃ j : Nat, j < n ∧ x = nI (lo + j) := by
  by_cases h1 : x.toInt < lo
  · exact Or.inl (Or.inl h1)
  · by_cases h2 : (lo : Int) + n ≤ x.toInt
    · exact Or.inl (Or.inr h2)
    · refine Or.inr ⟨x.toInt.toNat - lo, by omega, ?_⟩
      apply Int32.toInt_inj.mp
      rw [nI_toInt (by omega)]
      omega
/-- the links that cross from one class of the nest to another -/
def nestM : List (String × Nat × MethodName × String) := [(RX7, 9, yX0_init, RX7), (RX0, 11, yX2_init, RX7), (RX1, 17, yX0_init, RX7), (RX7, 36, yX6_init, RX7), (RX2, 59, yX7_hasBit, RX7), (RX0, 166, yX7_isCorner, RX7), (RX0, 169, yX7_isIn, RX7), (RX0, 187, yX7_isFinder, RX7), (RX0, 141, yX7_hasBit, RX7), (RX4, 32, yX7_isCorner, RX7), (RX4, 42, yX7_hasBit, RX7), (RX4, 62, yX7_isFinder, RX7)]
def nestF : List (String × Nat × String × String × String × String) := [(RX7, 144, "DogBoard$Board", "quarter", "LDogBoard$Quarter;", RX7), (RX4, 50, "DogBoard$Board", "dogs", "LDogBoard$Rows;", RX7), (RX7, 98, "DogBoard$Board", "dogs", "LDogBoard$Rows;", RX7), (RX7, 119, "DogBoard$Board", "sightings", "LDogBoard$Rows;", RX7), (RX7, 223, "DogBoard$Board", "hour", "I", RX7), (RX7, 260, "DogBoard$Board", "given", "I", RX7)]
/-- the texts of the exceptions -/
def strL : List (String × Nat × String) := [(RX7, 276, "there is no such dog, corner or finder"), (RX7, 278, "an argument is out of its range"), (RX7, 280, "the board does not allow this now"), (RX7, 50, "a character is 0 to 255"), (RX7, 61, "the text is full"), (RX7, 75, "the text is not a board"), (RX7, 93, "there is no such number of the board"), (RX7, 110, "there is no such dog"), (RX7, 113, "there is no such number of a dog"), (RX7, 122, "there is no such sighting"), (RX7, 124, "there is no such number of a sighting"), (RX7, 132, "there is no such finder"), (RX7, 140, "there is no such corner"), (RX7, 142, "a way of telling is 0 or 1"), (RX7, 207, "no state is remembered"), (RX7, 221, "marks are 0 to 255"), (RX7, 272, "a save slot is 0 or 1"), (RX7, 274, "nothing has been saved in this slot"), (RX7, 233, "a script has 1 to 3 commands"), (RX7, 237, "a script has six digits for each command"), (RX7, 248, "the turns are 1 to 60")]
/-- the two ends of each street -/
def endsL : List Nat := [0, 1, 1, 2, 2, 3, 4, 5, 5, 6, 6, 7, 8, 9, 9, 10, 10, 11, 0, 4, 1, 5, 2, 6, 3, 7, 4, 8, 5, 9, 6, 10, 7, 11]
def endsV (j : Nat) : Nat := endsL.getD j 0
def endsZ (j : Nat) : Value := .int (nI (endsV j))
/-- what every method may take for granted: the nest's links, the texts, the table of streets, the statics that an exception's making reads -/
def Cx (A : Nat → Prop) (U : State) (H : Heap) : Prop :=
  (∀ q ∈ nestM, va_Nw (.methodLinkNest q.1 q.2.1 q.2.2.1 q.2.2.2) U) ∧ (∀ q ∈ nestF, va_Nw (.fieldLinkNest q.1 q.2.1 q.2.2.1 q.2.2.2.1 q.2.2.2.2.1 q.2.2.2.2.2) U) ∧
  (∀ q ∈ strL, ∃ a, vk_R q.1 q.2.1 q.2.2 a U) ∧ (∃ t, va_Z "DogBoard$Quarter" "ENDS" "[I" (.ref t) A U H ∧ va_T .int t 34 endsZ A U H) ∧
  vx_Zq Bundle.tN "UNASSIGNED_STACK" Bundle.steD A U H ∧ vx_Zq Bundle.tN "SUPPRESSED_SENTINEL" Bundle.listD A U H
theorem nM_0 {A : Nat → Prop} {U : State} {H : Heap} (h : Cx A U H) : va_Nw (.methodLinkNest RX7 9 yX0_init RX7) U := h.1 (RX7, 9, yX0_init, RX7) (List.mem_of_getElem? (i := 0) rfl)
theorem nM_1 {A : Nat → Prop} {U : State} {H : Heap} (h : Cx A U H) : va_Nw (.methodLinkNest RX0 11 yX2_init RX7) U := h.1 (RX0, 11, yX2_init, RX7) (List.mem_of_getElem? (i := 1) rfl)
theorem nM_2 {A : Nat → Prop} {U : State} {H : Heap} (h : Cx A U H) : va_Nw (.methodLinkNest RX1 17 yX0_init RX7) U := h.1 (RX1, 17, yX0_init, RX7) (List.mem_of_getElem? (i := 2) rfl)
theorem nM_3 {A : Nat → Prop} {U : State} {H : Heap} (h : Cx A U H) : va_Nw (.methodLinkNest RX7 36 yX6_init RX7) U := h.1 (RX7, 36, yX6_init, RX7) (List.mem_of_getElem? (i := 3) rfl)
theorem nM_4 {A : Nat → Prop} {U : State} {H : Heap} (h : Cx A U H) : va_Nw (.methodLinkNest RX2 59 yX7_hasBit RX7) U := h.1 (RX2, 59, yX7_hasBit, RX7) (List.mem_of_getElem? (i := 4) rfl)
theorem nM_5 {A : Nat → Prop} {U : State} {H : Heap} (h : Cx A U H) : va_Nw (.methodLinkNest RX0 166 yX7_isCorner RX7) U := h.1 (RX0, 166, yX7_isCorner, RX7) (List.mem_of_getElem? (i := 5) rfl)
theorem nM_6 {A : Nat → Prop} {U : State} {H : Heap} (h : Cx A U H) : va_Nw (.methodLinkNest RX0 169 yX7_isIn RX7) U := h.1 (RX0, 169, yX7_isIn, RX7) (List.mem_of_getElem? (i := 6) rfl)
theorem nM_7 {A : Nat → Prop} {U : State} {H : Heap} (h : Cx A U H) : va_Nw (.methodLinkNest RX0 187 yX7_isFinder RX7) U := h.1 (RX0, 187, yX7_isFinder, RX7) (List.mem_of_getElem? (i := 7) rfl)
theorem nM_8 {A : Nat → Prop} {U : State} {H : Heap} (h : Cx A U H) : va_Nw (.methodLinkNest RX0 141 yX7_hasBit RX7) U := h.1 (RX0, 141, yX7_hasBit, RX7) (List.mem_of_getElem? (i := 8) rfl)
theorem nM_9 {A : Nat → Prop} {U : State} {H : Heap} (h : Cx A U H) : va_Nw (.methodLinkNest RX4 32 yX7_isCorner RX7) U := h.1 (RX4, 32, yX7_isCorner, RX7) (List.mem_of_getElem? (i := 9) rfl)
theorem nM_10 {A : Nat → Prop} {U : State} {H : Heap} (h : Cx A U H) : va_Nw (.methodLinkNest RX4 42 yX7_hasBit RX7) U := h.1 (RX4, 42, yX7_hasBit, RX7) (List.mem_of_getElem? (i := 10) rfl)
theorem nM_11 {A : Nat → Prop} {U : State} {H : Heap} (h : Cx A U H) : va_Nw (.methodLinkNest RX4 62 yX7_isFinder RX7) U := h.1 (RX4, 62, yX7_isFinder, RX7) (List.mem_of_getElem? (i := 11) rfl)
theorem nF_0 {A : Nat → Prop} {U : State} {H : Heap} (h : Cx A U H) : va_Nw (.fieldLinkNest RX7 144 "DogBoard$Board" "quarter" "LDogBoard$Quarter;" RX7) U := h.2.1 (RX7, 144, "DogBoard$Board", "quarter", "LDogBoard$Quarter;", RX7) (List.mem_of_getElem? (i := 0) rfl)
theorem nF_1 {A : Nat → Prop} {U : State} {H : Heap} (h : Cx A U H) : va_Nw (.fieldLinkNest RX4 50 "DogBoard$Board" "dogs" "LDogBoard$Rows;" RX7) U := h.2.1 (RX4, 50, "DogBoard$Board", "dogs", "LDogBoard$Rows;", RX7) (List.mem_of_getElem? (i := 1) rfl)
theorem nF_2 {A : Nat → Prop} {U : State} {H : Heap} (h : Cx A U H) : va_Nw (.fieldLinkNest RX7 98 "DogBoard$Board" "dogs" "LDogBoard$Rows;" RX7) U := h.2.1 (RX7, 98, "DogBoard$Board", "dogs", "LDogBoard$Rows;", RX7) (List.mem_of_getElem? (i := 2) rfl)
theorem nF_3 {A : Nat → Prop} {U : State} {H : Heap} (h : Cx A U H) : va_Nw (.fieldLinkNest RX7 119 "DogBoard$Board" "sightings" "LDogBoard$Rows;" RX7) U := h.2.1 (RX7, 119, "DogBoard$Board", "sightings", "LDogBoard$Rows;", RX7) (List.mem_of_getElem? (i := 3) rfl)
theorem nF_4 {A : Nat → Prop} {U : State} {H : Heap} (h : Cx A U H) : va_Nw (.fieldLinkNest RX7 223 "DogBoard$Board" "hour" "I" RX7) U := h.2.1 (RX7, 223, "DogBoard$Board", "hour", "I", RX7) (List.mem_of_getElem? (i := 4) rfl)
theorem nF_5 {A : Nat → Prop} {U : State} {H : Heap} (h : Cx A U H) : va_Nw (.fieldLinkNest RX7 260 "DogBoard$Board" "given" "I" RX7) U := h.2.1 (RX7, 260, "DogBoard$Board", "given", "I", RX7) (List.mem_of_getElem? (i := 5) rfl)
theorem Cx.call {A B : Nat → Prop} {s U : State} {H : Heap} {locs : List Loc} (h : Cx A s s.heap) (hS : va_S A s.heap H locs) (hAB : ∀ q, B q → A q) (hU : U.heap = H) (hW : s.WarmedH U.vm) : Cx B U U.heap := by
  obtain ⟨h1, h2, h3, ⟨t, h4, h5⟩, h6, h7⟩ := h
  have hk : ∀ a : Nat, a < s.heap.size → ¬ A a → U.heap[a]? = s.heap[a]? := fun a ha hn => by rw [hU]; exact hS.2.1 a ha hn
  refine ⟨fun q hq => va_Nw.warmM hW (h1 q hq), fun q hq => va_Nw.warmF hW (h2 q hq), fun q hq => ?_, ⟨t, ?_, ?_⟩, ?_, ?_⟩
  · obtain ⟨a, ha⟩ := h3 q hq
    exact ⟨a, vk_R.warm hW ha⟩
  · exact ((h4.kept hk).narrow hAB).moved hW.alike
  · exact ((h5.kept hk).narrow hAB).moved hW.alike
  · exact ((h6.kept hk).narrow hAB).moved hW.alike
  · exact ((h7.kept hk).narrow hAB).moved hW.alike
theorem Cx.blind {A : Nat → Prop} {U V : State} (hv : V.vm = U.vm) (hh : V.heap = U.heap) (h : Cx A U U.heap) : Cx A V V.heap := by
  obtain ⟨h1, h2, h3, ⟨t, h4, h5⟩, h6, h7⟩ := h
  have ha : U.vm.Alike V.vm := by rw [hv]; exact Vm.Alike.refl _
  rw [hh]
  refine ⟨fun q hq => va_Nw.same rfl hv.symm (h1 q hq), fun q hq => va_Nw.same rfl hv.symm (h2 q hq), fun q hq => ?_, ⟨t, h4.moved ha, h5.moved ha⟩, h6.moved ha, h7.moved ha⟩
  obtain ⟨a, ha⟩ := h3 q hq
  exact ⟨a, vk_R.same hv ha⟩
abbrev Ty (cy : Nat → ClassId) : List (ClassId × FieldType) := [(cy 0, .int), (cy 1, .boolean), (cy 2, .object RX0)]
/-- an array of ints, of booleans, of boards, of longs -/
abbrev aI (cy : Nat → ClassId) (h n : Nat) (f : Nat → Int32) : Nat × va_E := (h, .inl (cy 0, n, .inl f))
abbrev aZ (cy : Nat → ClassId) (h n : Nat) (f : Nat → Int32) : Nat × va_E := (h, .inl (cy 1, n, .inl f))
abbrev aB (cy : Nat → ClassId) (h n : Nat) (f : Nat → Option Nat) : Nat × va_E := (h, .inl (cy 2, n, .inr (.inr (.inr (.inr f)))))
abbrev aJ (cy : Nat → ClassId) (h n : Nat) (f : Nat → Int64) : Nat × va_E := (h, .inl (cy 3, n, .inr (.inl f)))
/-- a method's start -/
def pr (g : va_G) (cy : Nat → ClassId) (W : va_W) (sz : Nat) (U : State) : Prop :=
  U.heap.size = sz ∧ va_P g vwCl W U.heap ∧ va_K g vwCl (Ty cy) U ∧ va_D (fun _ => True) W ∧ Cx (va_A W sz) U U.heap
/-- a method that reads alone: its answer, and the heap as it was -/
def rd_Q (v : Option Value) : Array Value → State → Outcome → State → Prop := fun _ st oc t => oc = .returned v ∧ t.heap = st.heap
/-- a method that writes: its answer and its world's cells afterwards -/
def wr_Q {S : Type} (v : S → Option Value) (post : S → Prop) (ws : S → va_W) (g : va_G) (A : Nat → Prop) : Array Value → State → Outcome → State → Prop := fun _ st oc t =>
  (∃ u : S, oc = .returned (v u) ∧ post u ∧ va_P g vwCl (ws u) t.heap) ∧ va_F A st t
def nF : Nat → Prop := fun _ => False
def jput : List Nat → va_W → va_W → va_W
  | i :: is, q :: qs, ws => jput is qs (ws.set i q)
  | [], _, ws => ws
  | _, [], ws => ws
theorem jput_at : ∀ (is : List Nat) (qs ws : va_W), is.length = qs.length → va_nd is = true → ∀ (k : Nat) (q : Nat × va_E), (jput is qs ws)[k]? = some q → (∃ j : Nat, is[j]? = some k ∧ qs[j]? = some q) ∨ (k ∉ is ∧ ws[k]? = some q)
  | [], qs, ws, _, _, k, q, h => by
    refine Or.inr ⟨List.not_mem_nil, ?_⟩
    cases qs <;> exact h
  | i :: is, [], ws, hl, _, k, q, h => by cases hl
  | i :: is, q0 :: qs, ws, hl, hn, k, q, h => by
    simp only [va_nd, Bool.and_eq_true, decide_eq_true_eq] at hn
    have hl' : is.length = qs.length := by simpa using hl
    rcases jput_at is qs (ws.set i q0) hl' hn.2 k q h with ⟨j, h1, h2⟩ | ⟨h1, h2⟩
    · exact Or.inl ⟨j + 1, h1, h2⟩
    · by_cases hk : k = i
      · subst hk
        refine Or.inl ⟨0, rfl, ?_⟩
        have hlt := (List.getElem?_eq_some_iff.mp h2).1
        rw [List.length_set] at hlt
        rw [List.getElem?_set_self hlt] at h2
        exact h2
      · rw [List.getElem?_set_ne (Ne.symm hk)] at h2
        refine Or.inr ⟨fun hm => ?_, h2⟩
        rcases List.mem_cons.mp hm with e | e
        · exact hk e
        · exact h1 e
theorem map_at {α β : Type} {is : List Nat} {ws : List α} {w : List α} (hs : is.map (fun i => ws[i]?) = w.map some) {k : Nat} {q : α} (hq : w[k]? = some q) : ∃ i, is[k]? = some i ∧ ws[i]? = some q := by
  have h1 : (is.map (fun i => ws[i]?))[k]? = some (some q) := by rw [hs, List.getElem?_map, hq]; rfl
  rw [List.getElem?_map] at h1
  cases hi : is[k]? with
  | none => rw [hi] at h1; cases h1
  | some i => rw [hi] at h1; exact ⟨i, rfl, Option.some.inj h1⟩
theorem fmap_of {α : Type} {is : List Nat} {ws w : List α} (hs : is.map (fun i => ws[i]?) = w.map some) : is.filterMap (fun i => ws[i]?) = w := by
  have h : is.filterMap (fun i => ws[i]?) = (is.map (fun i => ws[i]?)).filterMap id := by rw [List.filterMap_map]; rfl
  rw [h, hs, List.filterMap_map]
  induction w with
  | nil => rfl
  | cons a l ih => simp
/-- behind a call that wrote: the callee's cells in their places, the others as they were -/
theorem jput_P {A0 : Nat → Prop} {g : va_G} {ws wc w1 : va_W} {H H1 : Heap} (hP : va_P g vwCl ws H) (hD : va_D A0 ws) (isC : List Nat) (hn : va_nd isC = true) (hC : isC.map (fun i => ws[i]?) = wc.map some) (hadr : w1.map Prod.fst = wc.map Prod.fst)
    (hk : ∀ q : Nat, q < H.size → ¬ va_A wc H.size q → H1[q]? = H[q]?) (hP1 : va_P g vwCl w1 H1) : va_P g vwCl (jput isC w1 ws) H1 ∧ va_D A0 (jput isC w1 ws) := by
  have hlen : isC.length = w1.length := by
    have h1 := congrArg List.length hC
    have h2 := congrArg List.length hadr
    simp only [List.length_map] at h1 h2
    omega
  have key : ∀ (k : Nat) (q : Nat × va_E), (jput isC w1 ws)[k]? = some q → ∃ q0, ws[k]? = some q0 ∧ q0.1 = q.1 := by
    intro k q h
    rcases jput_at isC w1 ws hlen hn k q h with ⟨j, h1, h2⟩ | ⟨-, h2⟩
    · have h3 : (w1.map Prod.fst)[j]? = some q.1 := by rw [List.getElem?_map, h2]; rfl
      rw [hadr, List.getElem?_map] at h3
      cases hw : wc[j]? with
      | none => rw [hw] at h3; cases h3
      | some q' =>
        rw [hw] at h3
        obtain ⟨i, g1, g2⟩ := map_at (β := Nat) hC hw
        have e : i = k := Option.some.inj (g1.symm.trans h1)
        subst e
        exact ⟨q', g2, Option.some.inj h3⟩
    · exact ⟨q, h2, rfl⟩
  refine ⟨fun k q h => ?_, fun i j x y hi hj hxy => ?_, fun k q h => ?_⟩
  · rcases jput_at isC w1 ws hlen hn k q h with ⟨j, -, h2⟩ | ⟨h1, h2⟩
    · exact hP1 j q h2
    · refine (hP k q h2).kept (hk q.1 (hP k q h2).lt ?_)
      intro hA
      rcases hA with ⟨k2, e, h3⟩ | h3
      · obtain ⟨i, g1, g2⟩ := map_at (β := Nat) hC h3
        have e2 := hD.1 i k (q.1, e) q g2 h2 rfl
        subst e2
        exact h1 (List.mem_of_getElem? g1)
      · exact absurd (hP k q h2).lt (Nat.not_lt.mpr h3)
  · obtain ⟨x0, h1, h2⟩ := key i x hi
    obtain ⟨y0, h3, h4⟩ := key j y hj
    exact hD.1 i j x0 y0 h1 h3 (h2.trans (hxy.trans h4.symm))
  · obtain ⟨q0, h1, h2⟩ := key k q h
    rw [← h2]
    exact hD.2 k q0 h1
theorem cB {R : Room} {s : State} {args : Array Value} {own : String} {index : Nat} {y : MethodName} {bytes : ByteArray} {maxL : Nat} {ret : Option FieldType} {rm : Room} {mc ms : Nat} (n : Nat) (ht : ∀ w ∈ wsL_law, w.before args s = true)
    (hc : Cond.code y bytes maxL ret ∈ wsL_law) (hi : Cond.initialized y.cls ∈ wsL_law) (hl : Cond.methodLink own index y ∈ wsL_law) (hrc : rm.cells = mc) (hrs : rm.slots = ms)
    (hd : y.cls ≠ "java/lang/invoke/MethodHandle" ∧ y.cls ≠ "java/lang/invoke/VarHandle" ∧ (parseMethodDescriptor y.desc).map (fun d => d.parameters.length) = some n) (hR : rm.frames + 1 ≤ R.frames ∧ 8 + (maxL + 11) + rm.locals ≤ R.locals) : CallB R s args own index y bytes maxL ret (Cond.code y bytes maxL ret :: wsL_law) rm mc ms n :=
  callB_of n ht (bg_call hc) rfl hrc hrs (ht _ hi) (ht _ hl) hd hR
theorem arrV_congr {cI : ClassId} {n : Nat} {f f' : Nat → Value} (h : ∀ j, j < n → f j = f' j) : arrV cI n f = arrV cI n f' := by
  unfold arrV
  have e : (fun j : Fin n => f j.val) = (fun j : Fin n => f' j.val) := funext fun j => h j.val j.isLt
  rw [e]
/-- an array of ints by other words -/
theorem arr_c {A : Nat → Prop} {g : va_G} {ws : va_W} {H : Heap} {h n : Nat} {cI : ClassId} {f : Nat → Int32} (f' : Nat → Int32) (hP : va_P g vwCl ws H) (hD : va_D A ws) (k : Nat) (he : ws[k]? = some (h, .inl (cI, n, .inl f))) (hf : ∀ j, j < n → f j = f' j) : va_P g vwCl (ws.set k (h, .inl (cI, n, .inl f'))) H ∧ va_D A (ws.set k (h, .inl (cI, n, .inl f'))) := by
  refine ⟨hP.set hD he ?_ (fun _ _ => rfl), hD.set he⟩
  have h1 : H[h]? = some (arrV cI n (fun j => .int (f j))) := hP k _ he
  show H[h]? = some (arrV cI n (fun j => .int (f' j)))
  rw [h1, arrV_congr (fun j hj => by rw [hf j hj])]
theorem bI_or (a b : Bool) : bI a ||| bI b = bI (a || b) := by cases a <;> cases b <;> rfl
section BS
variable {p : Program} {l : Launch} {e : Env} {R : Room} {s : State} {m : MethodId} {args : Array Value} {below : List Frame} {meth : Method} {c : Code} {H : Heap} {locs : List Loc} {cells slots : Nat} {Q : State → Prop}
variable {g : va_G} {cy : Nat → ClassId} {ws wc : va_W} {A0 : Nat → Prop} {pc : Nat} {ls : Array Slot} {rest st0 : List Value} {a : Array Value} {mc ms : Nat} {free : Addr → Prop}
theorem pr_blind {av : List Value} {sz : Nat} : FrameBlind (va_Pc av (pr g cy ws sz)) := by
  intro a U f mk h
  obtain ⟨q0, q1, q2, q3, q4, q5⟩ := h
  exact ⟨q0, q1, q2, va_K.moved (u := U) (U := U.calling f mk a) (Vm.Alike.refl U.vm) q3, q4, Cx.blind (U := U) (V := U.calling f mk a) rfl rfl q5⟩
theorem pr_call (hK : va_K g vwCl (Ty cy) s) (hP : va_P g vwCl ws H) (hD : va_D A0 ws) (hS : va_S A0 s.heap H locs) (hA : ∀ q : Nat, s.heap.size ≤ q → A0 q) (hX : Cx A0 s s.heap) (isC : List Nat) (hn : va_nd isC = true) (hC : isC.map (fun i => ws[i]?) = wc.map some) :
    ∀ U : State, U.heap = H → s.WarmedH U.vm → pr g cy wc H.size U := by
  intro U hU hW
  subst hU
  exact ⟨rfl, hP.sub isC (fmap_of hC), va_K.moved hW.alike hK, (hD.sub isC hn hC).weaken (fun _ _ _ _ => trivial), hX.call hS (va_free hD hS hA isC hC) rfl hW⟩
theorem pv {b : Addr} {As : List Value} {C : String} {T : u_T} {N : Nat} {fs : List Value} (hK : va_K g vwCl (Ty cy) s) (hP : va_P g vwCl ws H) (hD : va_D A0 ws) (hS : va_S A0 s.heap H locs) (hA : ∀ q : Nat, s.heap.size ≤ q → A0 q) (hX : Cx A0 s s.heap) (isC : List Nat) (hn : va_nd isC = true) (hC : isC.map (fun i => ws[i]?) = wc.map some)
    (ci q0 : Nat) (hc : vwCl[ci]? = some (C, T, N)) (he : ws[q0]? = some (b, .inr (ci, fs))) : PreV s H C b (va_Pc (.ref b :: As) (pr g cy wc H.size)) As :=
  ⟨pr_blind, va_recv hK hP hc he, fun U hU hW => ⟨rfl, pr_call hK hP hD hS hA hX isC hn hC U hU hW⟩⟩
theorem ps {As : List Value} (hK : va_K g vwCl (Ty cy) s) (hP : va_P g vwCl ws H) (hD : va_D A0 ws) (hS : va_S A0 s.heap H locs) (hA : ∀ q : Nat, s.heap.size ≤ q → A0 q) (hX : Cx A0 s s.heap) (isC : List Nat) (hn : va_nd isC = true) (hC : isC.map (fun i => ws[i]?) = wc.map some) :
    PreS s H (va_Pc As (pr g cy wc H.size)) As := ⟨pr_blind, fun U hU hW => ⟨rfl, pr_call hK hP hD hS hA hX isC hn hC U hU hW⟩⟩
/-- a static method that needs no cell at all -/
theorem p0 {As : List Value} : PreS s H (va_Pc As (fun _ => True)) As := ⟨fun _ _ _ _ h => ⟨h.1, trivial⟩, fun _ _ _ => ⟨rfl, trivial⟩⟩
/-- behind a call that read alone -/
theorem rd_call {v : Option Value} (hr : va_Run p l e R s m args below meth c H locs cells slots 0 0 (F0 m pc ls st0) rest (rd_Q v a) nF) (kk : W p l e R s m args below meth c H locs cells slots Q (F0 m (pc + 3) ls (v.toList ++ rest))) : W p l e R s m args below meth c H locs cells slots Q (F0 m pc ls st0) := by
  intro T hT X
  obtain ⟨v', st₀, t, T', L, h0, X', hL, e1, e2, ⟨hv, hh⟩, st⟩ := hr T hT X
  cases hv
  obtain ⟨t2, a1, b1⟩ := kk T' (by rw [e1, hh, h0]) (Stand.forget X' (fun q h => (hL q h).elim))
  exact ⟨t2, st t2 a1, b1⟩
/-- behind a call that wrote -/
theorem wr_call {S : Type} {v : S → Option Value} {post : S → Prop} {w1 : S → va_W} (hr : va_Run p l e R s m args below meth c H locs cells slots mc ms (F0 m pc ls st0) rest (wr_Q v post w1 g (va_A wc H.size) a) (va_A wc H.size)) (hP : va_P g vwCl ws H) (hD : va_D A0 ws) (hS : va_S A0 s.heap H locs) (hA : ∀ q : Nat, s.heap.size ≤ q → A0 q)
    (isC : List Nat) (hn : va_nd isC = true) (hC : isC.map (fun i => ws[i]?) = wc.map some) (hadr : ∀ u, (w1 u).map Prod.fst = wc.map Prod.fst)
    (kk : ∀ (u : S) (H1 : Heap) (locs1 : List Loc), post u → va_P g vwCl (jput isC (w1 u) ws) H1 → va_D A0 (jput isC (w1 u) ws) → va_S A0 s.heap H1 locs1 → W p l e R s m args below meth c H1 locs1 (cells + mc) (slots + ms) Q (F0 m (pc + 3) ls ((v u).toList ++ rest))) : W p l e R s m args below meth c H locs cells slots Q (F0 m pc ls st0) := by
  have hF := va_free hD hS hA isC hC
  intro T hT X
  obtain ⟨v', st₀, t, T', L, h0, X', hL, e1, e2, ⟨⟨u, hv, hp, hb⟩, hz, hk⟩, st⟩ := hr T hT X
  cases hv
  rw [h0] at hz hk
  have hj := jput_P (H1 := T'.heap) hP hD isC hn hC (hadr u) (fun q h1 h2 => by rw [e1]; exact hk q h1 h2) (by rw [e1]; exact hb)
  obtain ⟨t2, a1, b1⟩ := kk u T'.heap (locs ++ L) hp hj.1 hj.2
    ⟨Nat.le_trans hS.1 (by rw [e1]; exact hz), fun q h1 h2 => by rw [e1, hk q (Nat.lt_of_lt_of_le h1 hS.1) (fun z => h2 (hF q z))]; exact hS.2.1 q h1 h2, fun q hq => by
      rcases List.mem_append.mp hq with h | h
      · exact hS.2.2 q h
      · exact hF _ (hL q h)⟩ T' rfl X'
  exact ⟨t2, st t2 a1, b1⟩
/-- a loop: an invariant, and a measure that falls -/
theorem lp_rule {σ : Type} (I : σ → Heap → List Loc → Array Slot → Prop) (μ : σ → Nat) (x0 : σ) (h0 : I x0 H locs ls)
    (step : ∀ (x : σ) (H : Heap) (locs : List Loc) (ls : Array Slot), I x H locs ls → (∀ (x' : σ) (H' : Heap) (locs' : List Loc) (ls' : Array Slot), I x' H' locs' ls' → μ x' < μ x → W p l e R s m args below meth c H' locs' cells slots Q (F0 m pc ls' [])) → W p l e R s m args below meth c H locs cells slots Q (F0 m pc ls [])) :
    W p l e R s m args below meth c H locs cells slots Q (F0 m pc ls []) := by
  have h : ∀ (n : Nat) (x : σ) (H : Heap) (locs : List Loc) (ls : Array Slot), μ x < n → I x H locs ls → W p l e R s m args below meth c H locs cells slots Q (F0 m pc ls []) := by
    intro n
    induction n with
    | zero => intro x H locs ls h; exact absurd h (Nat.not_lt_zero _)
    | succ n ih => intro x H locs ls hx hI; exact step x H locs ls hI (fun x' H' locs' ls' h1 h2 => ih x' H' locs' ls' (by omega) h1)
  exact h _ x0 H locs ls (Nat.lt_succ_self _) h0
/-- a loop that reads alone -/
theorem lp_rd {σ : Type} (I : σ → Array Slot → Prop) (μ : σ → Nat) (x0 : σ) (h0 : I x0 ls)
    (step : ∀ (x : σ) (ls : Array Slot), I x ls → (∀ (x' : σ) (ls' : Array Slot), I x' ls' → μ x' < μ x → W p l e R s m args below meth c H locs cells slots Q (F0 m pc ls' [])) → W p l e R s m args below meth c H locs cells slots Q (F0 m pc ls [])) :
    W p l e R s m args below meth c H locs cells slots Q (F0 m pc ls []) := by
  have h : ∀ (n : Nat) (x : σ) (ls : Array Slot), μ x < n → I x ls → W p l e R s m args below meth c H locs cells slots Q (F0 m pc ls []) := by
    intro n
    induction n with
    | zero => intro x ls h; exact absurd h (Nat.not_lt_zero _)
    | succ n ih => intro x ls hx hI; exact step x ls hI (fun x' ls' h1 h2 => ih x' ls' (by omega) h1)
  exact h _ x0 ls (Nat.lt_succ_self _) h0
/-- roads that meet with one number on the stack, nothing else changed -/
theorem jn_i {pcj : Nat} {st : List Value} {gs : JFrame} (P : Int32 → Prop) (cont : ∀ v, P v → W p l e R s m args below meth c H locs cells slots Q (F0 m pcj ls (.int v :: st)))
    (main : (∀ v, P v → W p l e R s m args below meth c H locs cells slots Q (F0 m pcj ls (.int v :: st))) → W p l e R s m args below meth c H locs cells slots Q gs) : W p l e R s m args below meth c H locs cells slots Q gs := main cont
/-- roads that meet, in general -/
theorem jn_g {σ : Type} {pcj : Nat} {gs : JFrame} (I : σ → Heap → List Loc → Array Slot → List Value → Prop) (cont : ∀ x H locs ls st, I x H locs ls st → W p l e R s m args below meth c H locs cells slots Q (F0 m pcj ls st))
    (main : (∀ x H locs ls st, I x H locs ls st → W p l e R s m args below meth c H locs cells slots Q (F0 m pcj ls st)) → W p l e R s m args below meth c H locs cells slots Q gs) : W p l e R s m args below meth c H locs cells slots Q gs := main cont
theorem ti {x y : Int32} (h : x = y) (k : W p l e R s m args below meth c H locs cells slots Q (F0 m pc ls (.int y :: rest))) : W p l e R s m args below meth c H locs cells slots Q (F0 m pc ls (.int x :: rest)) := h ▸ k
theorem tl {x y : Int64} (h : x = y) (k : W p l e R s m args below meth c H locs cells slots Q (F0 m pc ls (.long y :: rest))) : W p l e R s m args below meth c H locs cells slots Q (F0 m pc ls (.long x :: rest)) := h ▸ k
theorem tv {x y : Value} (h : x = y) (k : W p l e R s m args below meth c H locs cells slots Q (F0 m pc ls (y :: rest))) : W p l e R s m args below meth c H locs cells slots Q (F0 m pc ls (x :: rest)) := h ▸ k
/-- the ends of a method that reads alone -/
theorem rd_i {cc : ByteArray} {v v0 : Int32} {below : List Frame} (h : v = v0) (hexec : p.tables.exec = Jvm.exec) (hb : c.code = cc) (hr : meth.sig.returnType = some .int) (hdg : decode cc pc = .ok (.ireturn, 1)) (hlocks : meth.locks = false) : W p l e R s m args below meth c s.heap [] 0 0 (MQ below (rd_Q (some (.int v0))) args s 0 0 nF) (F0 m pc ls [.int v]) := by
  subst h
  exact W.iret hexec hb hr (fun t ht _ => ⟨rfl, ht⟩) (fun q h => by cases h) hdg hlocks
theorem rd_z {cc : ByteArray} {v : Int32} {b : Bool} (h : v = bI b) (hexec : p.tables.exec = Jvm.exec) (hb : c.code = cc) (hr : meth.sig.returnType = some .boolean) (hdg : decode cc pc = .ok (.ireturn, 1)) (hlocks : meth.locks = false) : W p l e R s m args below meth c s.heap [] 0 0 (MQ below (rd_Q (some (.int (bI b)))) args s 0 0 nF) (F0 m pc ls [.int v]) := by
  subst h
  exact W.zret hexec hb hr (bI_nar b) (fun t ht _ => ⟨rfl, ht⟩) (fun q h => by cases h) hdg hlocks
/-- the ends of a method that writes -/
theorem wr_i {S : Type} {cc : ByteArray} {vf : S → Option Value} {post : S → Prop} {w1 : S → va_W} {A : Nat → Prop} {v : Int32} (u : S) (h : vf u = some (.int v)) (hp : post u) (hP : va_P g vwCl (w1 u) H) (hS : va_S A s.heap H locs) (hexec : p.tables.exec = Jvm.exec) (hb : c.code = cc) (hr : meth.sig.returnType = some .int) (hdg : decode cc pc = .ok (.ireturn, 1)) (hlocks : meth.locks = false) :
    W p l e R s m args below meth c H locs cells slots (MQ below (wr_Q vf post w1 g A) args s cells slots A) (F0 m pc ls [.int v]) :=
  W.iret hexec hb hr (fun t ht _ => ⟨⟨u, by rw [h], hp, by rw [ht]; exact hP⟩, hS.F ht⟩) hS.2.2 hdg hlocks
theorem wr_z {S : Type} {cc : ByteArray} {vf : S → Option Value} {post : S → Prop} {w1 : S → va_W} {A : Nat → Prop} {v : Int32} {b : Bool} (u : S) (hv : v = bI b) (h : vf u = some (.int (bI b))) (hp : post u) (hP : va_P g vwCl (w1 u) H) (hS : va_S A s.heap H locs) (hexec : p.tables.exec = Jvm.exec) (hb : c.code = cc) (hr : meth.sig.returnType = some .boolean) (hdg : decode cc pc = .ok (.ireturn, 1)) (hlocks : meth.locks = false) :
    W p l e R s m args below meth c H locs cells slots (MQ below (wr_Q vf post w1 g A) args s cells slots A) (F0 m pc ls [.int v]) := by
  subst hv
  exact W.zret hexec hb hr (bI_nar b) (fun t ht _ => ⟨⟨u, by rw [h], hp, by rw [ht]; exact hP⟩, hS.F ht⟩) hS.2.2 hdg hlocks
theorem wr_v {S : Type} {cc : ByteArray} {vf : S → Option Value} {post : S → Prop} {w1 : S → va_W} {A : Nat → Prop} (u : S) (h : vf u = none) (hp : post u) (hP : va_P g vwCl (w1 u) H) (hS : va_S A s.heap H locs) (hexec : p.tables.exec = Jvm.exec) (hb : c.code = cc) (hr : meth.sig.returnType = none) (hdg : decode cc pc = .ok (.return_, 1)) (hlocks : meth.locks = false) :
    W p l e R s m args below meth c H locs cells slots (MQ below (wr_Q vf post w1 g A) args s cells slots A) (F0 m pc ls []) :=
  W.vret hexec hb hr (fun t ht _ => ⟨⟨u, by rw [h], hp, by rw [ht]; exact hP⟩, hS.F ht⟩) hS.2.2 hdg hlocks
end BS
/-- a method's contract out of its walk -/
theorem mt_of {l : Launch} {g : va_G} {cy : Nat → ClassId} {y : MethodName} {rm : Room} {av : List Value} {W0 : va_W} {sz : Nat} {Qc : Array Value → State → Outcome → State → Prop} {mc ms : Nat} {free : Addr → Prop} {cc : ByteArray} {maxL : Nat} {ret : Option FieldType}
    (hy : plainName y.cls = true) (hlen : (lg_sl av).length ≤ maxL)
    (body : ∀ (p : Program) (e : Env) (s : State) (m : MethodId) (below : List Frame) (meth : Method) (c : Code) (ls : Array Slot) (A : Nat → Prop), p.tables.exec = Jvm.exec → c.code = cc → meth.sig.returnType = ret → c.maxLocals = maxL → s.vm.findClass y.cls = some m.cls → (∀ w ∈ wsL_law, w.before av.toArray s = true) → meth.locks = false → meth.name = y.name →
      s.heap.size = sz → A = va_A W0 sz → (∀ q : Nat, s.heap.size ≤ q → A q) → va_P g vwCl W0 s.heap → va_D A W0 → va_K g vwCl (Ty cy) s → Cx A s s.heap → lv_has ls maxL (lv_args 0 av) →
      W p l e rm s m av.toArray below meth c s.heap [] 0 0 (MQ below Qc av.toArray s mc ms free) (F0 m 0 ls [])) : Met l y (Cond.code y cc maxL ret :: wsL_law) rm (va_Pc av (pr g cy W0 sz)) Qc mc ms free := by
  refine Met.ofW (cc := cc) (maxL := maxL) (ret := ret) hy rfl ?_
  intro p e s m args below meth c s₁ B hml hv
  obtain ⟨rfl, hsz, hP, hK, hD0, hX⟩ := hv
  have hD : va_D (va_A W0 sz) W0 := hD0.self
  rw [lg_entry_eq]
  exact body p e s m below meth c _ (va_A W0 sz) B.exec B.bytes B.returns hml (findClass_of_methodNamed B.named) (fun w h => atoms_spec (ws := Cond.code y cc maxL ret :: wsL_law) B.pre w (List.mem_cons_of_mem _ h)) B.notSynchronized (name_of_methodNamed B.named B.method).1 hsz rfl (fun q h => Or.inr (by rw [← hsz]; exact h)) hP hD hK hX (lv_entry av hlen)
/-- the same, of a static method that needs no cell -/
theorem mt_0 {l : Launch} {y : MethodName} {rm : Room} {av : List Value} {Qc : Array Value → State → Outcome → State → Prop} {mc ms : Nat} {free : Addr → Prop} {cc : ByteArray} {maxL : Nat} {ret : Option FieldType}
    (hy : plainName y.cls = true) (hlen : (lg_sl av).length ≤ maxL)
    (body : ∀ (p : Program) (e : Env) (s : State) (m : MethodId) (below : List Frame) (meth : Method) (c : Code) (ls : Array Slot), p.tables.exec = Jvm.exec → c.code = cc → meth.sig.returnType = ret → c.maxLocals = maxL → s.vm.findClass y.cls = some m.cls → (∀ w ∈ wsL_law, w.before av.toArray s = true) → meth.locks = false →
      lv_has ls maxL (lv_args 0 av) → W p l e rm s m av.toArray below meth c s.heap [] 0 0 (MQ below Qc av.toArray s mc ms free) (F0 m 0 ls [])) : Met l y (Cond.code y cc maxL ret :: wsL_law) rm (va_Pc av (fun _ => True)) Qc mc ms free := by
  refine Met.ofW (cc := cc) (maxL := maxL) (ret := ret) hy rfl ?_
  intro p e s m args below meth c s₁ B hml hv
  obtain ⟨rfl, -⟩ := hv
  rw [lg_entry_eq]
  exact body p e s m below meth c _ B.exec B.bytes B.returns hml (findClass_of_methodNamed B.named) (fun w h => atoms_spec (ws := Cond.code y cc maxL ret :: wsL_law) B.pre w (List.mem_cons_of_mem _ h)) B.notSynchronized (lv_entry av hlen)
