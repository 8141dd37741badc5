/-! BOARDS BY THE DOZEN: a pool of boards behind a world's other cells, calls that reach one of them, calls that hand on the whole pool. -/
/-- what a board holds: numbers, closed streets, ways, sweeps, dogs, sightings, purses, places -/
abbrev BdR : Type := (Nat → Nat) × Nat × (Nat → Int32) × (Nat → Int32) × (Nat → Int32) × (Nat → Int32) × (Nat → Int32) × (Nat → Int32)
def bdl (cy : Nat → ClassId) (a : Nat → Nat) (r : BdR) : va_W := [(a 0, .inr (0, [.ref (a 1), .ref (a 4), .ref (a 6), .ref (a 8), .ref (a 9), .int (nI (r.1 2)), .int (nI (r.1 3)), .int (nI (r.1 4)), .int (nI (r.1 5)), .int (nI (r.1 6)), .int (nI (r.1 7))])), (a 1, .inr (2, [.ref (a 2), .ref (a 3), .int (nI r.2.1)])), aI cy (a 2) 144 r.2.2.1, aI cy (a 3) 12 r.2.2.2.1, (a 4, .inr (3, [.int (nI 6), .int (nI 11), .ref (a 5), .int (nI (r.1 0))])), aI cy (a 5) 66 r.2.2.2.2.1, (a 6, .inr (3, [.int (nI 20), .int (nI 6), .ref (a 7), .int (nI (r.1 1))])), aI cy (a 7) 120 r.2.2.2.2.2.1, aI cy (a 8) 8 r.2.2.2.2.2.2.1, aI cy (a 9) 6 r.2.2.2.2.2.2.2]
theorem bdl_len (cy : Nat → ClassId) (a : Nat → Nat) (r : BdR) : (bdl cy a r).length = 10 := rfl
theorem bdl_ad {cy : Nat → ClassId} {a : Nat → Nat} {r r' : BdR} {t : Nat} {q : Nat × va_E} (h : (bdl cy a r)[t]? = some q) : ∃ q0, (bdl cy a r')[t]? = some q0 ∧ q0.1 = q.1 := by
  have e : (bdl cy a r).map Prod.fst = (bdl cy a r').map Prod.fst := rfl
  have h1 : ((bdl cy a r).map Prod.fst)[t]? = some q.1 := by rw [List.getElem?_map, h]; rfl
  rw [e, List.getElem?_map] at h1
  cases hq : (bdl cy a r')[t]? with
  | none => rw [hq] at h1; cases h1
  | some q0 => rw [hq] at h1; exact ⟨q0, rfl, Option.some.inj h1⟩
def pool (cy : Nat → ClassId) (pa : Nat → Nat → Nat) : Nat → (Nat → BdR) → va_W
  | 0, _ => []
  | n + 1, R => pool cy pa n R ++ bdl cy (pa n) (R n)
theorem pool_len {cy : Nat → ClassId} {pa : Nat → Nat → Nat} {R : Nat → BdR} : ∀ n, (pool cy pa n R).length = 10 * n
  | 0 => rfl
  | n + 1 => by
    show (pool cy pa n R ++ bdl cy (pa n) (R n)).length = _
    rw [List.length_append, pool_len n, bdl_len]
    omega
theorem pool_at {cy : Nat → ClassId} {pa : Nat → Nat → Nat} {R : Nat → BdR} : ∀ {n i t : Nat}, i < n → t < 10 → (pool cy pa n R)[10 * i + t]? = (bdl cy (pa i) (R i))[t]?
  | 0, i, t, h, _ => absurd h (Nat.not_lt_zero _)
  | n + 1, i, t, h, ht => by
    show (pool cy pa n R ++ bdl cy (pa n) (R n))[10 * i + t]? = _
    by_cases e : i = n
    · subst e
      rw [List.getElem?_append_right (by rw [pool_len]; omega), pool_len, Nat.add_sub_cancel_left]
    · rw [List.getElem?_append_left (by rw [pool_len]; omega)]
      exact pool_at (by omega) ht
def upR (R : Nat → BdR) (i : Nat) (r : BdR) : Nat → BdR := fun j => if j = i then r else R j
theorem upR_s {R : Nat → BdR} {i : Nat} {r : BdR} : upR R i r i = r := if_pos rfl
theorem upR_n {R : Nat → BdR} {i j : Nat} {r : BdR} (h : j ≠ i) : upR R i r j = R j := if_neg h
def isP (m i : Nat) : List Nat := [m + (10 * i + 0), m + (10 * i + 1), m + (10 * i + 2), m + (10 * i + 3), m + (10 * i + 4), m + (10 * i + 5), m + (10 * i + 6), m + (10 * i + 7), m + (10 * i + 8), m + (10 * i + 9)]
theorem isP_in {m i k : Nat} (h : k ∈ isP m i) : ∃ t, t < 10 ∧ k = m + (10 * i + t) := by
  simp only [isP, List.mem_cons, List.not_mem_nil, or_false] at h
  rcases h with h | h | h | h | h | h | h | h | h | h
  · exact ⟨0, by omega, h⟩
  · exact ⟨1, by omega, h⟩
  · exact ⟨2, by omega, h⟩
  · exact ⟨3, by omega, h⟩
  · exact ⟨4, by omega, h⟩
  · exact ⟨5, by omega, h⟩
  · exact ⟨6, by omega, h⟩
  · exact ⟨7, by omega, h⟩
  · exact ⟨8, by omega, h⟩
  · exact ⟨9, by omega, h⟩
theorem tl_at {L T : va_W} {m k : Nat} (h : L.length = m) : (L ++ T)[m + k]? = T[k]? := by
  rw [List.getElem?_append_right (by omega), h, Nat.add_sub_cancel_left]
theorem isP_at {cy : Nat → ClassId} {pa : Nat → Nat → Nat} {R : Nat → BdR} {L : va_W} {m n i t : Nat} (h : L.length = m) (hi : i < n) (ht : t < 10) : (L ++ pool cy pa n R)[m + (10 * i + t)]? = (bdl cy (pa i) (R i))[t]? := by
  rw [tl_at h, pool_at hi ht]
theorem isP_map {cy : Nat → ClassId} {pa : Nat → Nat → Nat} {R : Nat → BdR} {L : va_W} {m n i : Nat} (h : L.length = m) (hi : i < n) : (isP m i).map (fun k => (L ++ pool cy pa n R)[k]?) = (bdl cy (pa i) (R i)).map some := by
  simp only [isP, List.map_cons, List.map_nil]
  rw [isP_at h hi (by decide), isP_at h hi (by decide), isP_at h hi (by decide), isP_at h hi (by decide), isP_at h hi (by decide), isP_at h hi (by decide), isP_at h hi (by decide), isP_at h hi (by decide), isP_at h hi (by decide), isP_at h hi (by decide)]
  rfl
theorem map_app9 {α : Type} {f : Nat → Option α} {is1 is2 : List Nat} {w1 w2 : List α} (h1 : is1.map f = w1.map some) (h2 : is2.map f = w2.map some) : (is1 ++ is2).map f = (w1 ++ w2).map some := by
  rw [List.map_append, List.map_append, h1, h2]
theorem nd_app : ∀ {a b : List Nat}, va_nd a = true → va_nd b = true → (∀ i, i ∈ a → i ∉ b) → va_nd (a ++ b) = true
  | [], _, _, h2, _ => h2
  | x :: a, b, h1, h2, h3 => by
    simp only [va_nd, Bool.and_eq_true, decide_eq_true_eq] at h1
    show va_nd (x :: (a ++ b)) = true
    simp only [va_nd, Bool.and_eq_true, decide_eq_true_eq]
    exact ⟨fun q => (List.mem_append.mp q).elim h1.1 (h3 x List.mem_cons_self), nd_app h1.2 h2 (fun i hi => h3 i (List.mem_cons_of_mem _ hi))⟩
theorem nd_map {m : Nat} : ∀ {l : List Nat}, va_nd l = true → va_nd (l.map (fun k => m + k)) = true
  | [], _ => rfl
  | x :: l, h => by
    simp only [va_nd, Bool.and_eq_true, decide_eq_true_eq] at h
    show va_nd ((m + x) :: l.map (fun k => m + k)) = true
    simp only [va_nd, Bool.and_eq_true, decide_eq_true_eq]
    refine ⟨fun q => ?_, nd_map h.2⟩
    obtain ⟨y, hy, e⟩ := List.mem_map.mp q
    exact h.1 (by rw [show x = y by omega]; exact hy)
theorem nd_range : ∀ n, va_nd (List.range n) = true
  | 0 => rfl
  | n + 1 => by
    rw [List.range_succ]
    refine nd_app (nd_range n) rfl (fun i hi h => ?_)
    rw [List.mem_range] at hi
    rw [List.mem_singleton] at h
    omega
theorem isP_eq {m i : Nat} : isP m i = ((List.range 10).map (fun t => 10 * i + t)).map (fun k => m + k) := rfl
theorem nd_isP {m i : Nat} : va_nd (isP m i) = true := by
  rw [isP_eq]
  exact nd_map (nd_map (nd_range 10))
/-- the places of the first ones and the whole rest -/
def isT (m N : Nat) (is1 : List Nat) : List Nat := is1 ++ (List.range N).map (fun k => m + k)
theorem range_map {α : Type} : ∀ (T : List α), (List.range T.length).map (fun k => T[k]?) = T.map some := by
  intro T
  apply List.ext_getElem?
  intro k
  rw [List.getElem?_map, List.getElem?_map]
  by_cases h : k < T.length
  · rw [List.getElem?_range h, List.getElem?_eq_getElem h]
    simp [List.getElem?_eq_getElem h]
  · rw [List.getElem?_eq_none (by rw [List.length_range]; omega), List.getElem?_eq_none (by omega)]
    rfl
theorem isT_map {L T wa : va_W} {m N : Nat} {is1 : List Nat} (hm : L.length = m) (hN : T.length = N) (h : is1.map (fun k => L[k]?) = wa.map some) : (isT m N is1).map (fun k => (L ++ T)[k]?) = (wa ++ T).map some := by
  have hlt : ∀ k ∈ is1, k < m := by
    intro k hk
    have h1 : L[k]? ∈ wa.map some := by rw [← h]; exact List.mem_map.mpr ⟨k, hk, rfl⟩
    obtain ⟨q, _, hq⟩ := List.mem_map.mp h1
    have := (List.getElem?_eq_some_iff.mp hq.symm).1
    omega
  refine map_app9 ?_ ?_
  · rw [← h]
    exact List.map_congr_left (fun k hk => List.getElem?_append_left (by rw [hm]; exact hlt k hk))
  · rw [List.map_map, ← hN, ← range_map T]
    exact List.map_congr_left (fun k _ => tl_at hm)
theorem isT_lt {L wa : va_W} {m : Nat} {is1 : List Nat} (hm : L.length = m) (h : is1.map (fun k => L[k]?) = wa.map some) : ∀ k ∈ is1, k < m := by
  intro k hk
  have h1 : L[k]? ∈ wa.map some := by rw [← h]; exact List.mem_map.mpr ⟨k, hk, rfl⟩
  obtain ⟨q, _, hq⟩ := List.mem_map.mp h1
  have := (List.getElem?_eq_some_iff.mp hq.symm).1
  omega
theorem isT_nd {m N : Nat} {is1 : List Nat} (h : va_nd is1 = true) (hlt : ∀ k ∈ is1, k < m) : va_nd (isT m N is1) = true := nd_app h (nd_map (nd_range N)) (fun i hi h => by
  obtain ⟨k, _, e⟩ := List.mem_map.mp h
  have := hlt i hi
  omega)
/-- what a call made of a list of cells, the callee's by their places -/
theorem jput_rel {L w2 w2' : va_W} {is2 : List Nat} (hn : va_nd is2 = true) (hC : is2.map (fun i => L[i]?) = w2.map some) (hadr : w2'.map Prod.fst = w2.map Prod.fst) : ∀ (k : Nat) (q : Nat × va_E), (jput is2 w2' L)[k]? = some q → (∃ q0, L[k]? = some q0 ∧ q0.1 = q.1) ∧ (q ∈ w2' ∨ (k ∉ is2 ∧ L[k]? = some q)) := by
  intro k q h
  have hlen : is2.length = w2'.length := by
    have h1 := congrArg List.length hC
    have h2 := congrArg List.length hadr
    simp only [List.length_map] at h1 h2
    omega
  rcases jput_at is2 w2' L hlen hn k q h with ⟨j, h1, h2⟩ | ⟨h1, h2⟩
  · refine ⟨?_, Or.inl (List.mem_of_getElem? h2)⟩
    have h3 : (w2'.map Prod.fst)[j]? = some q.1 := by rw [List.getElem?_map, h2]; rfl
    rw [hadr, List.getElem?_map] at h3
    cases hw : w2[j]? with
    | none => rw [hw] at h3; cases h3
    | some q' =>
      rw [hw] at h3
      obtain ⟨i, g1, g2⟩ := map_at (β := Nat) hC hw
      have e : i = k := Option.some.inj (g1.symm.trans h1)
      subst e
      exact ⟨q', g2, Option.some.inj h3⟩
  · exact ⟨⟨q, h2, rfl⟩, Or.inr ⟨h1, h2⟩⟩
theorem jput_len : ∀ (is : List Nat) (w L : va_W), (jput is w L).length = L.length
  | [], w, L => by cases w <;> rfl
  | i :: is, [], L => rfl
  | i :: is, q :: w, L => by
    show (jput is w (L.set i q)).length = _
    rw [jput_len is w, List.length_set]
/-- .. with one board of the pool among the callee's -/
theorem pool_rel {cy : Nat → ClassId} {pa : Nat → Nat → Nat} {R : Nat → BdR} {r' : BdR} {L w2 w2' : va_W} {is2 : List Nat} {m n i : Nat} (hm : L.length = m) (hi : i < n) (hn : va_nd is2 = true) (hC : is2.map (fun i => L[i]?) = w2.map some) (hadr : w2'.map Prod.fst = w2.map Prod.fst) :
    ∀ (k : Nat) (q : Nat × va_E), (jput is2 w2' L ++ pool cy pa n (upR R i r'))[k]? = some q → (∃ q0, (L ++ pool cy pa n R)[k]? = some q0 ∧ q0.1 = q.1) ∧ ((q ∈ bdl cy (pa i) r' ∨ q ∈ w2') ∨ ((k ∉ isP m i ∧ k ∉ is2) ∧ (L ++ pool cy pa n R)[k]? = some q)) := by
  intro k q h
  have hl := jput_len is2 w2' L
  by_cases hk : k < m
  · rw [List.getElem?_append_left (by omega)] at h
    obtain ⟨⟨q0, g1, g2⟩, g3⟩ := jput_rel hn hC hadr k q h
    have e : (L ++ pool cy pa n R)[k]? = L[k]? := List.getElem?_append_left (by omega)
    rw [e]
    refine ⟨⟨q0, g1, g2⟩, g3.elim (fun z => Or.inl (Or.inr z)) (fun z => Or.inr ⟨⟨fun y => ?_, z.1⟩, z.2⟩)⟩
    obtain ⟨t, _, e2⟩ := isP_in y
    omega
  · obtain ⟨j, rfl⟩ : ∃ j, k = m + j := ⟨k - m, by omega⟩
    rw [tl_at (by omega)] at h
    rw [tl_at hm]
    have hj : j < 10 * n := by
      have := (List.getElem?_eq_some_iff.mp h).1
      rw [pool_len] at this
      exact this
    obtain ⟨x, t, ht, rfl⟩ : ∃ x t, t < 10 ∧ j = 10 * x + t := ⟨j / 10, j % 10, by omega, by omega⟩
    rw [pool_at (by omega) ht] at h
    rw [pool_at (by omega) ht]
    by_cases e : x = i
    · subst e
      rw [upR_s] at h
      exact ⟨bdl_ad h, Or.inl (Or.inl (List.mem_of_getElem? h))⟩
    · rw [upR_n e] at h
      refine ⟨⟨q, h, rfl⟩, Or.inr ⟨⟨fun y => ?_, fun y => ?_⟩, h⟩⟩
      · obtain ⟨t2, ht2, e2⟩ := isP_in y
        omega
      · have := isT_lt hm hC _ y
        omega
/-- .. with the whole rest handed on -/
theorem tail_rel {L T T' w2 w2' : va_W} {is2 : List Nat} {m N : Nat} (hm : L.length = m) (hN : T.length = N) (hT : T'.map Prod.fst = T.map Prod.fst) (hn : va_nd is2 = true) (hC : is2.map (fun i => L[i]?) = w2.map some) (hadr : w2'.map Prod.fst = w2.map Prod.fst) :
    ∀ (k : Nat) (q : Nat × va_E), (jput is2 w2' L ++ T')[k]? = some q → (∃ q0, (L ++ T)[k]? = some q0 ∧ q0.1 = q.1) ∧ (q ∈ w2' ++ T' ∨ (k ∉ isT m N is2 ∧ (L ++ T)[k]? = some q)) := by
  intro k q h
  have hl := jput_len is2 w2' L
  by_cases hk : k < m
  · rw [List.getElem?_append_left (by omega)] at h
    obtain ⟨⟨q0, g1, g2⟩, g3⟩ := jput_rel hn hC hadr k q h
    have e : (L ++ T)[k]? = L[k]? := List.getElem?_append_left (by omega)
    rw [e]
    refine ⟨⟨q0, g1, g2⟩, g3.elim (fun z => Or.inl (List.mem_append.mpr (Or.inl z))) (fun z => Or.inr ⟨fun y => ?_, z.2⟩)⟩
    rcases List.mem_append.mp y with y | y
    · exact z.1 y
    · obtain ⟨j, _, e2⟩ := List.mem_map.mp y
      omega
  · obtain ⟨j, rfl⟩ : ∃ j, k = m + j := ⟨k - m, by omega⟩
    rw [tl_at (by omega)] at h
    rw [tl_at hm]
    refine ⟨?_, Or.inl (List.mem_append.mpr (Or.inr (List.mem_of_getElem? h)))⟩
    have h1 : (T'.map Prod.fst)[j]? = some q.1 := by rw [List.getElem?_map, h]; rfl
    rw [hT, List.getElem?_map] at h1
    cases hq : T[j]? with
    | none => rw [hq] at h1; cases h1
    | some q0 => rw [hq] at h1; exact ⟨q0, rfl, Option.some.inj h1⟩
theorem pool_ad {cy : Nat → ClassId} {pa : Nat → Nat → Nat} {R R' : Nat → BdR} : ∀ n, (pool cy pa n R').map Prod.fst = (pool cy pa n R).map Prod.fst
  | 0 => rfl
  | n + 1 => by
    show (pool cy pa n R' ++ bdl cy (pa n) (R' n)).map Prod.fst = (pool cy pa n R ++ bdl cy (pa n) (R n)).map Prod.fst
    rw [List.map_append, List.map_append, pool_ad n]
    rfl
section PL
variable {p : Program} {l : Launch} {e : Env} {R : Room} {s : State} {m : MethodId} {args : Array Value} {below : List Frame} {meth : Method} {c : Code} {H : Heap} {locs : List Loc} {cells slots : Nat} {Q : State → Prop}
variable {g : va_G} {cy : Nat → ClassId} {ws wc : va_W} {A0 : Nat → Prop} {pc : Nat} {ls : Array Slot} {rest st0 : List Value} {a : Array Value} {mc ms : Nat}
/-- behind a call that wrote, in general: what each cell is then -/
theorem wr_callR {S : Type} {v : S → Option Value} {post : S → Prop} {w1 : S → va_W} (hr : va_Run p l e R s m args below meth c H locs cells slots mc ms (F0 m pc ls st0) rest (wr_Q v post w1 g (va_A wc H.size) a) (va_A wc H.size)) (hP : va_P g vwCl ws H) (hD : va_D A0 ws) (hS : va_S A0 s.heap H locs) (hA : ∀ q : Nat, s.heap.size ≤ q → A0 q)
    (isC : List Nat) (hC : isC.map (fun i => ws[i]?) = wc.map some) (ws' : S → va_W)
    (hrel : ∀ (u : S) (k : Nat) (q : Nat × va_E), (ws' u)[k]? = some q → (∃ q0, ws[k]? = some q0 ∧ q0.1 = q.1) ∧ (q ∈ w1 u ∨ (k ∉ isC ∧ ws[k]? = some q)))
    (kk : ∀ (u : S) (H1 : Heap) (locs1 : List Loc), post u → va_P g vwCl (ws' u) H1 → va_D A0 (ws' u) → va_S A0 s.heap H1 locs1 → W p l e R s m args below meth c H1 locs1 (cells + mc) (slots + ms) Q (F0 m (pc + 3) ls ((v u).toList ++ rest))) : W p l e R s m args below meth c H locs cells slots Q (F0 m pc ls st0) := by
  have hF := va_free hD hS hA isC hC
  intro T hT X
  obtain ⟨v', st₀, t, T', L, h0, X', hL, e1, e2, ⟨⟨u, hv, hp, hb⟩, hz, hk⟩, st⟩ := hr T hT X
  cases hv
  rw [h0] at hz hk
  rw [← e1] at hb hz hk
  have hP' : va_P g vwCl (ws' u) T'.heap := by
    intro k q h
    rcases (hrel u k q h).2 with h2 | ⟨h1, h2⟩
    · obtain ⟨j, hj⟩ := List.getElem?_of_mem h2
      exact hb j q hj
    · refine (hP k q h2).kept (hk q.1 (hP k q h2).lt ?_)
      intro hA9
      rcases hA9 with ⟨k2, e, h3⟩ | h3
      · obtain ⟨i, g1, g2⟩ := map_at (β := Nat) hC h3
        have e2 := hD.1 i k (q.1, e) q g2 h2 rfl
        subst e2
        exact h1 (List.mem_of_getElem? g1)
      · exact absurd (hP k q h2).lt (Nat.not_lt.mpr h3)
  have hD' : va_D A0 (ws' u) := by
    refine ⟨fun i j x y hi hj hxy => ?_, fun k q h => ?_⟩
    · obtain ⟨x0, h1, h2⟩ := (hrel u i x hi).1
      obtain ⟨y0, h3, h4⟩ := (hrel u j y hj).1
      exact hD.1 i j x0 y0 h1 h3 (h2.trans (hxy.trans h4.symm))
    · obtain ⟨q0, h1, h2⟩ := (hrel u k q h).1
      rw [← h2]
      exact hD.2 k q0 h1
  obtain ⟨t2, a1, b1⟩ := kk u T'.heap (locs ++ L) hp hP' hD'
    ⟨Nat.le_trans hS.1 hz, fun q h1 h2 => by rw [hk q (Nat.lt_of_lt_of_le h1 hS.1) (fun z => h2 (hF q z))]; exact hS.2.1 q h1 h2, fun q hq => by
      rcases List.mem_append.mp hq with h | h
      · exact hS.2.2 q h
      · exact hF _ (hL q h)⟩ T' rfl X'
  exact ⟨t2, st t2 a1, b1⟩
theorem tr {x y : Value} (h : x = y) (k : W p l e R s m args below meth c H locs cells slots Q (F0 m pc ls (y :: rest))) : W p l e R s m args below meth c H locs cells slots Q (F0 m pc ls (x :: rest)) := h ▸ k
/-- the end of a method that reads alone and hands back a reference -/
theorem rd_a {cc : ByteArray} {v v0 : Value} {rt : FieldType} {below : List Frame} (h : v = v0) (hrt : (∃ n, rt = .object n) ∨ ∃ t, rt = .array t) (hv : v = .null ∨ ∃ a, v = .ref a) (hexec : p.tables.exec = Jvm.exec) (hb : c.code = cc) (hr : meth.sig.returnType = some rt) (hdg : decode cc pc = .ok (.areturn, 1)) (hlocks : meth.locks = false) : W p l e R s m args below meth c s.heap [] 0 0 (MQ below (rd_Q (some v0)) args s 0 0 nF) (F0 m pc ls [v]) := by
  subst h
  exact W.aret hexec hb hr hrt hv (fun t ht _ => ⟨rfl, ht⟩) (fun q h => by cases h) hdg hlocks
end PL
theorem nd_poolA {m i : Nat} {is2 : List Nat} (h : va_nd is2 = true) (hlt : ∀ k ∈ is2, k < m) : va_nd (isP m i ++ is2) = true := nd_app nd_isP h (fun k hk h2 => by
  obtain ⟨t, _, e⟩ := isP_in hk
  have := hlt k h2
  omega)
theorem nd_poolB {m i : Nat} {is2 : List Nat} (h : va_nd is2 = true) (hlt : ∀ k ∈ is2, k < m) : va_nd (is2 ++ isP m i) = true := nd_app h nd_isP (fun k hk h2 => by
  obtain ⟨t, _, e⟩ := isP_in h2
  have := hlt k hk
  omega)
theorem rel_A {cy : Nat → ClassId} {pa : Nat → Nat → Nat} {R : Nat → BdR} {r' : BdR} {L w2 w2' : va_W} {is2 : List Nat} {m n i : Nat} (hm : L.length = m) (hi : i < n) (hn : va_nd is2 = true) (hC : is2.map (fun i => L[i]?) = w2.map some) (hadr : w2'.map Prod.fst = w2.map Prod.fst) :
    ∀ (k : Nat) (q : Nat × va_E), (jput is2 w2' L ++ pool cy pa n (upR R i r'))[k]? = some q → (∃ q0, (L ++ pool cy pa n R)[k]? = some q0 ∧ q0.1 = q.1) ∧ (q ∈ bdl cy (pa i) r' ++ w2' ∨ (k ∉ isP m i ++ is2 ∧ (L ++ pool cy pa n R)[k]? = some q)) := fun k q h => by
  have z := pool_rel hm hi hn hC hadr k q h
  exact ⟨z.1, z.2.imp (fun z => List.mem_append.mpr z) (fun z => ⟨fun y => (List.mem_append.mp y).elim z.1.1 z.1.2, z.2⟩)⟩
theorem rel_B {cy : Nat → ClassId} {pa : Nat → Nat → Nat} {R : Nat → BdR} {r' : BdR} {L w2 w2' : va_W} {is2 : List Nat} {m n i : Nat} (hm : L.length = m) (hi : i < n) (hn : va_nd is2 = true) (hC : is2.map (fun i => L[i]?) = w2.map some) (hadr : w2'.map Prod.fst = w2.map Prod.fst) :
    ∀ (k : Nat) (q : Nat × va_E), (jput is2 w2' L ++ pool cy pa n (upR R i r'))[k]? = some q → (∃ q0, (L ++ pool cy pa n R)[k]? = some q0 ∧ q0.1 = q.1) ∧ (q ∈ w2' ++ bdl cy (pa i) r' ∨ (k ∉ is2 ++ isP m i ∧ (L ++ pool cy pa n R)[k]? = some q)) := fun k q h => by
  have z := pool_rel hm hi hn hC hadr k q h
  exact ⟨z.1, z.2.imp (fun z => List.mem_append.mpr z.symm) (fun z => ⟨fun y => (List.mem_append.mp y).elim z.1.2 z.1.1, z.2⟩)⟩
theorem upR_id {R : Nat → BdR} {i : Nat} : upR R i (R i) = R := by
  funext j
  unfold upR
  split
  · rename_i h; rw [h]
  · rfl
/-- the ring of states: a state more -/
def hiO (o n : Nat) : Nat := if n < 14 then o else (o + 1) % 14
def hiN (n : Nat) : Nat := if n < 14 then n + 1 else n
/-- a board with what another holds -/
def cpR (r r2 : BdR) : BdR := (r2.1, r2.2.1, r2.2.2.1, r.2.2.2.1, r2.2.2.2.2.1, r2.2.2.2.2.2.1, r2.2.2.2.2.2.2.1, r.2.2.2.2.2.2.2)
