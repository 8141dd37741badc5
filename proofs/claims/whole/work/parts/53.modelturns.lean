/-! THE REFERENCE: turns and scripts' commands, as the class's. -/
theorem in_k {v k : Nat} (h : v < 2 ^ 31) (hk : k < 2 ^ 31) : inR (nI v) (nI 0) (nI k) = decide (v ≤ k) := by
  rw [inR_n h (by decide) hk, decide_eq_true (Nat.zero_le v)]
  rfl
theorem lo_e {σ : Nat → Nat} {a b c d : Nat} : doR 100 (pf4 a b c d) σ = loseR σ (nI a) (nI b) (nI c) (nI d) := by
  obtain ⟨e1, e2, e3, e4⟩ := pf4_v (a := a) (b := b) (c := c) (d := d)
  unfold doR
  rw [if_pos rfl, e1, e2, e3, e4]
theorem fi_e {σ : Nat → Nat} {a b c : Nat} : doR 102 (pf3 a b c) σ = findR σ (nI a) (nI b) (nI c) ∧ doA 102 (pf3 a b c) σ = findA σ (nI a) (nI b) (nI c) := by
  obtain ⟨e1, e2, e3⟩ := pf3_v (a := a) (b := b) (c := c)
  unfold doR doA
  rw [if_neg (by decide), if_pos rfl, if_neg (by decide), if_pos rfl, e1, e2, e3]
  exact ⟨rfl, rfl⟩
theorem tl_sight {σ : Nat → Nat} {a b c g : Nat} {ph : Bool} (hn : σ 0 ≤ 6) (h2 : σ 2 ≤ 100000) (ha : a ≤ 7) (hb : b ≤ 11) (hc : c ≤ 255) (hg : g ≤ 99) :
    (σ 1 < 20 → g ≤ σ 2 → fTell σ (nI a) (nI b) (nI c) (nI g) = 0) ∧ (20 ≤ σ 1 ∨ σ 2 < g → fTell σ (nI a) (nI b) (nI c) (nI g) ≠ 0) := by
  have f : fTell σ (nI a) (nI b) (nI c) (nI g) = if g ≤ σ 2 then (if 20 ≤ σ 1 then 3 else 0) else 2 := by
    unfold fTell
    rw [in_t (Nat.zero_le _) ha (by decide), in_t (Nat.zero_le _) hb (by decide), in_t (Nat.zero_le _) hc (by decide), in_t (Nat.zero_le _) hg (by decide)]
    have e : decide (nI (σ 2) < nI g) = !decide (g ≤ σ 2) := by
      rw [decide_eq_decide.mpr (nI_ltI (show σ 2 < 2 ^ 31 by omega) (show g < 2 ^ 31 by omega))]
      by_cases q : g ≤ σ 2
      · rw [decide_eq_true q, decide_eq_false (by omega)]; rfl
      · rw [decide_eq_false q, decide_eq_true (by omega)]; rfl
    rw [e]
    simp
  rw [f]
  refine ⟨fun h1 h3 => ?_, fun h => ?_⟩
  · rw [if_pos h3, if_neg (by omega)]
  · rcases h with h | h
    · split <;> first | decide | (rw [if_pos h]; decide)
    · rw [if_neg (by omega)]; decide
theorem clR_no {σ : Nat → Nat} {a b : Nat} {on : Bool} (hb : ¬ b ≤ 11) (hb2 : b < 100) : closeR σ (nI a) (nI b) on = σ ∧ nI (closeA σ (nI a) (nI b) on) = nI NN2 := by
  have f : fClose (nI a) (nI b) ≠ 0 := by
    unfold fClose
    rw [in_k (v := b) (by omega) (by decide), decide_eq_false hb, Bool.and_false, if_neg Bool.false_ne_true]
    decide
  exact ⟨if_neg f, congrArg nI (show closeA σ (nI a) (nI b) on = NN2 from if_neg f)⟩
theorem clR_na {σ : Nat → Nat} {a b : Nat} {on : Bool} (ha : ¬ a ≤ 11) (ha2 : a < 100) : nI (closeA σ (nI a) (nI b) on) = nI NN2 := by
  have f : fClose (nI a) (nI b) ≠ 0 := by
    unfold fClose
    rw [in_k (v := a) (by omega) (by decide), decide_eq_false ha, Bool.false_and, if_neg Bool.false_ne_true]
    decide
  exact congrArg nI (show closeA σ (nI a) (nI b) on = NN2 from if_neg f)
theorem ho_e {σ : Nat → Nat} {bd n : Nat} (hw : WF bd σ) (h1 : 1 ≤ n) (h2 : n ≤ 99) : hoursR σ (nI n) = hoS σ n ∧ ¬ nI (hoursA σ (nI n)) = nI NN2 := by
  have f : fPass (nI n) = 0 := by unfold fPass; rw [in_t h1 h2 (by decide)]; rfl
  unfold hoursR hoursA
  rw [if_pos f, if_pos f, nI_clamp (by omega)]
  exact ⟨rfl, nn2_ne (hoA_lt hw h2)⟩
theorem ho_0 {σ : Nat → Nat} : nI (hoursA σ (nI 0)) = nI NN2 := by
  have f : fPass (nI 0) ≠ 0 := by decide
  exact congrArg nI (show hoursA σ (nI 0) = NN2 from if_neg f)
/-- a turn, by its kind and the rest -/
theorem pl_m {σ : Nat → Nat} {k x : Nat} (hk : k < 8) : plR (8 * x + k) σ = if k = 0 then loseR σ (nI (1 + x % 255)) (nI (1 + x / 256 % 3)) (nI (x / 1024 % 12)) (nI (1 + x / 16384 % 500))
  else if k = 1 ∨ k = 2 ∨ k = 3 then sightR σ (nI (x % 8)) (nI (x / 8 % 12)) (nI (x / 128 % 256)) (nI (x / 32768 % 6)) (decide (x / 262144 % 2 = 1))
  else if k = 4 then findR σ (nI (x % 6)) (nI (x / 8 % 8)) (nI (x / 64 % 12))
  else if k = 5 then closeR σ (nI (x % 12)) (nI (x % 12 + (if x / 16 % 2 = 0 then 1 else 4))) (decide (x / 64 % 2 = 1))
  else hoursR σ (nI (1 + x % 30)) := by
  have h8 : (8 * x + k) % 8 = k := by omega
  have h9 : (8 * x + k) / 8 = x := by omega
  unfold plR
  rw [h8, h9]
/-- a command, by its kind and the rest -/
theorem sc_m {σ : Nat → Nat} {k x : Nat} (hx : x < 100000) : scB (100000 * k + x) σ =
  (if k = 1 then decide (x / 10000 = 0) && (decide (x / 100 % 100 = 0) && !decide (nI (hoursA σ (nI (x % 100))) = nI NN2))
  else if k = 2 then decide (x / 10 % 10 < 8) && (decide (x % 10 = 0) && !decide (nI (sightA σ (nI (x / 10000)) (nI (x / 100 % 100)) (nI (2 ^ (x / 10 % 10))) (nI 0)) < 0))
  else if k = 3 then decide (x % 10 = 0) && !decide (nI (findA σ (nI (x / 10000)) (nI (x / 1000 % 10)) (nI (x / 10 % 100))) = nI NN2)
  else if k = 4 then decide (x % 10 ≤ 1) && !decide (nI (closeA σ (nI (x / 1000)) (nI (x / 10 % 100)) (decide (x % 10 = 1))) = nI NN2)
  else if k = 5 then decide (x / 100 % 100 = 0) && !decide (nI (setA σ (nI (x / 10000)) (nI (x % 100))) = nI NN2)
  else if k = 6 then decide (x % 100 = 0) && (decide (x / 100 % 100 < 12) && ((decide (x / 10000 < σ 0) && msg σ (x / 10000)) && cbe σ (x / 10000) (x / 100 % 100)))
  else if k = 7 then decide (x / 10000 = 0) && (decide (x / 100 % 100 = 0) && decide (ct (frd σ) (σ 1) ≤ x % 100))
  else if k = 8 then decide (x / 1000 % 10 = 0) && (decide (x / 10000 < σ 0) && decide (x % 1000 ≤ dg σ (x / 10000) 4))
  else if k = 9 then decide (x / 1000 % 10 = 0) && (decide (x / 10000 < 8) && !decide (nI (σ (8 + x / 10000)) < nI (x % 1000)))
  else false) ∧ scS (100000 * k + x) σ =
  (if k = 1 then (if x / 10000 = 0 ∧ x / 100 % 100 = 0 then hoursR σ (nI (x % 100)) else σ)
  else if k = 2 then (if x / 10 % 10 < 8 ∧ x % 10 = 0 then sightR σ (nI (x / 10000)) (nI (x / 100 % 100)) (nI (2 ^ (x / 10 % 10))) (nI 0) false else σ)
  else if k = 3 then (if x % 10 = 0 then findR σ (nI (x / 10000)) (nI (x / 1000 % 10)) (nI (x / 10 % 100)) else σ)
  else if k = 4 then (if x % 10 ≤ 1 then closeR σ (nI (x / 1000)) (nI (x / 10 % 100)) (decide (x % 10 = 1)) else σ)
  else if k = 5 then (if x / 100 % 100 = 0 then setR σ (nI (x / 10000)) (nI (x % 100)) else σ)
  else σ) := by
  have e0 : (100000 * k + x) / 100000 = k := by omega
  have e1 : (100000 * k + x) / 10000 % 10 = x / 10000 := by omega
  have e2 : (100000 * k + x) / 100 % 100 = x / 100 % 100 := by omega
  have e3 : (100000 * k + x) % 100 = x % 100 := by omega
  have e4 : (100000 * k + x) / 10 % 10 = x / 10 % 10 := by omega
  have e5 : (100000 * k + x) % 10 = x % 10 := by omega
  have e6 : (100000 * k + x) / 1000 % 10 = x / 1000 % 10 := by omega
  have e7 : (100000 * k + x) / 10 % 100 = x / 10 % 100 := by omega
  have e8 : (100000 * k + x) / 1000 % 100 = x / 1000 := by omega
  have e9 : (100000 * k + x) % 1000 = x % 1000 := by omega
  unfold scB scS
  rw [e0, e1, e2, e3, e4, e5, e6, e7, e8, e9]
  exact ⟨rfl, rfl⟩
theorem se_e {σ : Nat → Nat} {w v : Nat} (hw : w < 10) (hv : v < 100) (h : fSet (nI w) (nI v) = 0) : w ≤ 1 ∧ setR σ (nI w) (nI v) = up σ (6 + w) v ∧ setA σ (nI w) (nI v) = σ (6 + w) := by
  obtain ⟨v9, _, _, q⟩ := fSet_0 h
  rcases q with q | ⟨q, _⟩
  · have e : w = 0 := nz_eq q (by omega)
    subst e
    unfold setR setA
    rw [if_pos h, if_pos h, nI_clamp (by omega), if_pos (show (nI 0 : Int32) = 0 from rfl), show decide ((nI 0 : Int32) = 0) = true from rfl, ← setU true]
    exact ⟨by decide, rfl, rfl⟩
  · have e : w = 1 := (nI_eq (by omega) (by decide)).mp q
    subst e
    unfold setR setA
    rw [if_pos h, if_pos h, nI_clamp (by omega), if_neg (show ¬ (nI 1 : Int32) = 0 by decide), show decide ((nI 1 : Int32) = 0) = false from by decide, ← setU false]
    exact ⟨by decide, rfl, rfl⟩
theorem se_b {w v : Int32} : fSet w v = if ((decide (w = 0) && inR v (nI 0) (nI 50)) || (decide (w = nI 1) && inR v (nI 0) (nI 8))) = true then 0 else 2 := rfl
theorem se_n {σ : Nat → Nat} {w v : Int32} (h : fSet w v ≠ 0) : nI (setA σ w v) = nI NN2 := congrArg nI (show setA σ w v = NN2 from if_neg h)
theorem p2_lt {k : Nat} (h : k < 8) : 2 ^ k ≤ 128 := Nat.pow_le_pow_right (n := 2) (by decide) (show k ≤ 7 by omega)
theorem mea_32 {σ : Nat → Nat} {m h : Nat} (hn : σ 0 ≤ 6) : mea σ m h < 2 ^ 32 := by
  rcases mea_lt (σ := σ) (m := m) (h := h) with e | e
  · rw [e]; decide
  · omega
theorem mea_nn {σ : Nat → Nat} {m h : Nat} (hn : σ 0 ≤ 6) (q : mea σ m h ≠ NN) : ¬ nI (mea σ m h) < 0 := by
  have e := (mea_lt (σ := σ) (m := m) (h := h)).resolve_left q
  exact nI_pos (by omega)
theorem lt_nn2 {x : Int32} (h : x = nI NN2) : decide (x < 0) = true := by
  subst h
  decide
theorem lt_nn {x : Int32} (h : x = nI NN) : decide (x < 0) = true := by
  subst h
  decide
theorem sA_no {σ : Nat → Nat} {f c m g : Int32} (h : fTell σ f c m g ≠ 0) : nI (sightA σ f c m g) = nI NN2 := congrArg nI (show sightA σ f c m g = NN2 from if_neg h)
theorem tl_no {σ : Nat → Nat} {a b : Nat} {m g : Int32} (ha : a < 1000) (hb : b < 1000) (h : ¬ a ≤ 7 ∨ ¬ b ≤ 11) : fTell σ (nI a) (nI b) m g ≠ 0 := by
  unfold fTell
  rw [in_k (v := a) (by omega) (by decide), in_k (v := b) (by omega) (by decide)]
  rcases h with h | h
  · rw [decide_eq_false h, Bool.false_and, if_neg Bool.false_ne_true]; decide
  · rw [decide_eq_false h, Bool.and_false, if_neg Bool.false_ne_true]; decide
theorem fi_no {σ : Nat → Nat} {a b c : Nat} (hn : σ 0 ≤ 6) (ha : a < 1000) (hb : b < 1000) (hc : c < 1000) (h : ¬ a < σ 0 ∨ ¬ b ≤ 7 ∨ ¬ c ≤ 11 ∨ msg σ a = false) : nI (findA σ (nI a) (nI b) (nI c)) = nI NN2 := by
  have f : fFind σ (nI a) (nI b) (nI c) ≠ 0 := by
    unfold fFind
    rw [in_k (v := b) (by omega) (by decide), in_k (v := c) (by omega) (by decide)]
    have g : (¬ a < σ 0 ∨ msg σ a = false) → fAsk σ (nI a) ≠ 0 := fun h => by
      unfold fAsk
      rw [hasR_n (by omega) (by omega), nI_clamp (by omega)]
      rcases h with h | h
      · rw [decide_eq_false h, if_neg Bool.false_ne_true]; decide
      · split
        · rw [h, if_neg Bool.false_ne_true]; decide
        · decide
    rcases h with h | h | h | h
    · split
      · exact g (Or.inl h)
      · decide
    · rw [decide_eq_false h, Bool.false_and, if_neg Bool.false_ne_true]; decide
    · rw [decide_eq_false h, Bool.and_false, if_neg Bool.false_ne_true]; decide
    · split
      · exact g (Or.inr h)
      · decide
  exact congrArg nI (show findA σ (nI a) (nI b) (nI c) = NN2 from if_neg f)

set_option maxHeartbeats 4000000 in
set_option maxRecDepth 100000 in
theorem c_X8_turnOf (l : Launch) (g : va_G) (cy : Nat → ClassId) (mo a1 a2 a3 a4 a5 a6 mw mh sa : Nat) (sz : Nat) (rf : Nat) (z : Nat) (ac : Nat) (sp : Nat) (ou : Nat) (wy : Nat → Nat) (w9 : Nat → Nat) (σ : Nat → Nat) (bd : Nat) (k8 : Nat) (x8 : Nat) (hwf : WF bd σ) (hk8 : k8 < 8) (hx8 : x8 < 268435456) : Met l yX8_turnOf (Cond.code yX8_turnOf cX8_turnOf 6 none :: wsL_law) ({ frames := 6, cells := 0, slots := 0, locals := 148 } : Room) (va_Pc [.ref mo, .ref sa, .int (nI k8), .int (nI x8)] (pr g cy [(mo, .inr (6, [.int (nI rf), .ref a1, .int (nI z), .ref a2, .ref a3, .ref a4, .int (nI ac), .ref a5, .ref a6, .ref mw, .ref mh, .int (nI sp), .int (nI ou)])), aI cy mw 144 (mS wy), aI cy mh 8 (mS w9), aI cy sa 248 (mS σ)] sz)) (wr_Q (fun u9 : (Nat → Nat) × (Nat → Nat) => none) (fun u9 : (Nat → Nat) × (Nat → Nat) => True) (fun u9 : (Nat → Nat) × (Nat → Nat) => [(mo, .inr (6, [.int (nI rf), .ref a1, .int (nI z), .ref a2, .ref a3, .ref a4, .int (nI ac), .ref a5, .ref a6, .ref mw, .ref mh, .int (nI sp), .int (nI ou)])), aI cy mw 144 (mS u9.1), aI cy mh 8 (mS u9.2), aI cy sa 248 (mS (plR (8 * x8 + k8) σ))]) g (va_A [(mo, .inr (6, [.int (nI rf), .ref a1, .int (nI z), .ref a2, .ref a3, .ref a4, .int (nI ac), .ref a5, .ref a6, .ref mw, .ref mh, .int (nI sp), .int (nI ou)])), aI cy mw 144 (mS wy), aI cy mh 8 (mS w9), aI cy sa 248 (mS σ)] sz)) 0 0 (va_A [(mo, .inr (6, [.int (nI rf), .ref a1, .int (nI z), .ref a2, .ref a3, .ref a4, .int (nI ac), .ref a5, .ref a6, .ref mw, .ref mh, .int (nI sp), .int (nI ou)])), aI cy mw 144 (mS wy), aI cy mh 8 (mS w9), aI cy sa 248 (mS σ)] sz) := by
  refine mt_of (cc := cX8_turnOf) (maxL := 6) (ret := none) (by decide +kernel) (Nat.le_of_ble_eq_true rfl) ?_
  intro pX eX s mX below meth cX ls A hx hb hr hml hown hts hlk hin hsz hAe hA hP hD hK hX hl
  subst hsz
  rw [← hAe]
  clear hAe
  have hl : lv_has ls 6 [(0, .ref mo), (1, .ref sa), (2, .int (nI k8)), (3, .int (nI x8))] := hl
  have hS : va_S A s.heap s.heap [] := va_S.rf
  have hn0 := hwf.n0
  have hn1 := hwf.n1
  have hh2 := hwf.h2
  refine lv_iload_n hx hb dX8_turnOf_0 rfl (lv_at hl 2 rfl) ?_
  refine lv_if_ne (tgt := 55) hx hb dX8_turnOf_1 (by decide) (fun c_1 => ?_) (fun c_1 => ?_)
  · have c_1 := (nz_ne c_1 (by omega))
    refine lv_iload_n hx hb dX8_turnOf_55 rfl (lv_at hl 2 rfl) ?_
    refine lv_iconst (v := (nI 4)) hx hb dX8_turnOf_56 (by decide) ?_
    refine lv_icmp_ge (tgt := 131) hx hb dX8_turnOf_57 (by decide) (fun c_57 => ?_) (fun c_57 => ?_)
    · have c_57 := (nc_le (by omega) (by omega) c_57)
      refine lv_iload_n hx hb dX8_turnOf_131 rfl (lv_at hl 2 rfl) ?_
      refine lv_iconst (v := (nI 4)) hx hb dX8_turnOf_132 (by decide) ?_
      refine lv_icmp_ne (tgt := 185) hx hb dX8_turnOf_133 (by decide) (fun c_133 => ?_) (fun c_133 => ?_)
      · have c_133 := (nc_ne9 (by omega) (by omega) c_133)
        refine lv_iload_n hx hb dX8_turnOf_185 rfl (lv_at hl 2 rfl) ?_
        refine lv_iconst (v := (nI 5)) hx hb dX8_turnOf_186 (by decide) ?_
        refine lv_icmp_ne (tgt := 264) hx hb dX8_turnOf_187 (by decide) (fun c_187 => ?_) (fun c_187 => ?_)
        · have c_187 := (nc_ne9 (by omega) (by omega) c_187)
          have hpl : plR (8 * x8 + k8) σ = hoursR σ (nI (1 + x8 % 30)) := (pl_m hk8).trans (by rw [if_neg c_1, if_neg (by omega), if_neg c_133, if_neg c_187])
          refine lv_aload_n hx hb dX8_turnOf_264 rfl (lv_at hl 1 rfl) ?_
          refine lv_iconst (v := (nI 1)) hx hb dX8_turnOf_265 (by decide) ?_
          refine lv_iload_n hx hb dX8_turnOf_266 rfl (lv_at hl 3 rfl) ?_
          refine lv_bipush (v := (nI 30)) hx hb dX8_turnOf_267 (by decide) ?_
          refine lv_irem hx hb dX8_turnOf_269 (nI_ne0 (by omega) (by omega)) ?_
          refine ti (pk_rem (a := x8) (d := 30) (by omega) (by omega) (by omega)) ?_
          refine lv_iadd hx hb dX8_turnOf_270 ?_
          refine ti (nI_add 1 (x8 % 30)) ?_
          refine wr_call (wc := [aI cy sa 248 (mS σ)]) (va_runS (As := [.ref sa, .int (nI (1 + (x8 % 30)))]) (rest := []) ⟨hx, hb, hml, hown, hts⟩ (c_X8_hoursOn l g cy sa s.heap.size σ bd (1 + (x8 % 30)) hwf (by omega)) ⟨(cB 2 hts wd15_15 wd1_5 wd15_13 rfl rfl (by decide +kernel) ⟨Nat.le_of_ble_eq_true rfl, Nat.le_of_ble_eq_true rfl⟩), hts _ wd15_14⟩ (ps hK hP hD hS hA hX [3] rfl rfl) rfl rfl hl.1 rfl (lv_room (Nat.le_of_ble_eq_true rfl)) dX8_turnOf_271 ⟨Nat.zero_le _, Nat.zero_le _⟩) hP hD hS hA [3] rfl rfl (fun _ => (rfl : ([sa] : List Nat) = [sa])) ?_
          rintro _u9 H locs - hP hD hS
          have hP : va_P g vwCl [(mo, .inr (6, [.int (nI rf), .ref a1, .int (nI z), .ref a2, .ref a3, .ref a4, .int (nI ac), .ref a5, .ref a6, .ref mw, .ref mh, .int (nI sp), .int (nI ou)])), aI cy mw 144 (mS wy), aI cy mh 8 (mS w9), aI cy sa 248 (mS (hoS σ (1 + (x8 % 30))))] H := hP
          have hD : va_D A [(mo, .inr (6, [.int (nI rf), .ref a1, .int (nI z), .ref a2, .ref a3, .ref a4, .int (nI ac), .ref a5, .ref a6, .ref mw, .ref mh, .int (nI sp), .int (nI ou)])), aI cy mw 144 (mS wy), aI cy mh 8 (mS w9), aI cy sa 248 (mS (hoS σ (1 + (x8 % 30))))] := hD
          show W _ _ _ _ _ _ _ _ _ _ _ _ _ _ _ (F0 mX 274 ls [.int (nI (sm (gro σ (1 + (x8 % 30))) (σ 0)))])
          refine lv_pop hx hb dX8_turnOf_274 rfl ?_
          have heS := hpl.trans ((ho_e hwf (by omega) (by omega)).1)
          exact wr_v (wy, w9) rfl trivial (by rw [heS]; exact hP) hS hx hb hr dX8_turnOf_275 hlk
        · have c_187 := (nc_eq9 (by omega) (by omega) c_187)
          have hpl : plR (8 * x8 + k8) σ = closeR σ (nI (x8 % 12)) (nI (x8 % 12 + (if x8 / 16 % 2 = 0 then 1 else 4))) (decide (x8 / 64 % 2 = 1)) := (pl_m hk8).trans (by rw [if_neg c_1, if_neg (by omega), if_neg c_133, if_pos c_187])
          have hi9 : (if x8 / 16 % 2 = 0 then 1 else 4) ≤ 4 := by split <;> decide
          refine lv_iload_n hx hb dX8_turnOf_190 rfl (lv_at hl 3 rfl) ?_
          refine lv_bipush (v := (nI 12)) hx hb dX8_turnOf_191 (by decide) ?_
          refine lv_irem hx hb dX8_turnOf_193 (nI_ne0 (by omega) (by omega)) ?_
          refine ti (pk_rem (a := x8) (d := 12) (by omega) (by omega) (by omega)) ?_
          refine lv_istore (lv' := [(4, .int (nI (x8 % 12))), (0, .ref mo), (1, .ref sa), (2, .int (nI k8)), (3, .int (nI x8))]) hx hb dX8_turnOf_194 hl (by decide) rfl (fun ls hl => ?_)
          refine jn_i (pcj := 216) (ls := ls) (st := []) (fun v9 => v9 = (nI (x8 % 12 + (if x8 / 16 % 2 = 0 then 1 else 4)))) ?_ (fun jn216 => ?_)
          · intro v9 hv9
            subst hv9
            refine lv_istore (lv' := [(5, .int (nI (x8 % 12 + (if x8 / 16 % 2 = 0 then 1 else 4)))), (4, .int (nI (x8 % 12))), (0, .ref mo), (1, .ref sa), (2, .int (nI k8)), (3, .int (nI x8))]) hx hb dX8_turnOf_216 hl (by decide) rfl (fun ls hl => ?_)
            refine lv_iload hx hb dX8_turnOf_218 (lv_at hl 0 rfl) ?_
            refine rd_call (va_runS (As := [.int (nI (x8 % 12 + (if x8 / 16 % 2 = 0 then 1 else 4)))]) (rest := []) ⟨hx, hb, hml, hown, hts⟩ (c_X8_isCorner l (nI (x8 % 12 + (if x8 / 16 % 2 = 0 then 1 else 4))) ) ⟨(cB 1 hts wd28_15 wd1_5 wd28_13 rfl rfl (by decide +kernel) ⟨Nat.le_of_ble_eq_true rfl, Nat.le_of_ble_eq_true rfl⟩), hts _ wd28_14⟩ p0 rfl rfl hl.1 rfl (lv_room (Nat.le_of_ble_eq_true rfl)) dX8_turnOf_220 ⟨Nat.zero_le _, Nat.zero_le _⟩) ?_
            show W _ _ _ _ _ _ _ _ _ _ _ _ _ _ _ (F0 mX 223 ls [.int (bI (inR (nI (x8 % 12 + (if x8 / 16 % 2 = 0 then 1 else 4))) (nI 0) (nI 11)))])
            refine ti (show (bI (inR (nI (x8 % 12 + (if x8 / 16 % 2 = 0 then 1 else 4))) (nI 0) (nI 11))) = (bI (decide (x8 % 12 + (if x8 / 16 % 2 = 0 then 1 else 4) ≤ 11))) from (congrArg bI (in_k (by omega) (by decide)))) ?_
            refine lv_if_eq (tgt := 261) hx hb dX8_turnOf_223 (by decide) (fun c_223 => ?_) (fun c_223 => ?_)
            · have c_223 := (bI_eq0.mp c_223)
              have c_223 : ¬ x8 % 12 + (if x8 / 16 % 2 = 0 then 1 else 4) ≤ 11 := of_decide_eq_false c_223
              refine lv_goto (tgt := 275) hx hb dX8_turnOf_261 (by decide) ?_
              have heS := hpl.trans ((clR_no c_223 (by omega)).1)
              exact wr_v (wy, w9) rfl trivial (by rw [heS]; exact hP) hS hx hb hr dX8_turnOf_275 hlk
            · have c_223 := (bI_ne0.mp c_223)
              have c_223 : x8 % 12 + (if x8 / 16 % 2 = 0 then 1 else 4) ≤ 11 := of_decide_eq_true c_223
              have hst9 := stp_lt (a := x8 % 12) (b := x8 % 12 + (if x8 / 16 % 2 = 0 then 1 else 4)) (by omega) (by omega)
              refine lv_iload hx hb dX8_turnOf_226 (lv_at hl 1 rfl) ?_
              refine lv_iload hx hb dX8_turnOf_228 (lv_at hl 0 rfl) ?_
              refine rd_call (va_runS (As := [.int (nI (x8 % 12)), .int (nI (x8 % 12 + (if x8 / 16 % 2 = 0 then 1 else 4)))]) (rest := []) ⟨hx, hb, hml, hown, hts⟩ (c_X8_street l (x8 % 12) (x8 % 12 + (if x8 / 16 % 2 = 0 then 1 else 4)) (by omega) (by omega)) ⟨(cB 2 hts wd13_23 wd1_5 wd13_21 rfl rfl (by decide +kernel) ⟨Nat.le_of_ble_eq_true rfl, Nat.le_of_ble_eq_true rfl⟩), hts _ wd13_22⟩ p0 rfl rfl hl.1 rfl (lv_room (Nat.le_of_ble_eq_true rfl)) dX8_turnOf_230 ⟨Nat.zero_le _, Nat.zero_le _⟩) ?_
              show W _ _ _ _ _ _ _ _ _ _ _ _ _ _ _ (F0 mX 233 ls [.int (nI (stp (x8 % 12) (x8 % 12 + (if x8 / 16 % 2 = 0 then 1 else 4))))])
              refine lv_iconst (v := (nI NN)) hx hb dX8_turnOf_233 (by decide) ?_
              refine lv_icmp_eq (tgt := 261) hx hb dX8_turnOf_234 (by decide) (fun c_234 => ?_) (fun c_234 => ?_)
              · have c_234 := (nc_eq9 (by omega) (by decide) c_234)
                refine lv_goto (tgt := 275) hx hb dX8_turnOf_261 (by decide) ?_
                have heS := hpl.trans (((close_a (by omega) c_223).2 c_234).1)
                exact wr_v (wy, w9) rfl trivial (by rw [heS]; exact hP) hS hx hb hr dX8_turnOf_275 hlk
              · have c_234 := (nc_ne9 (by omega) (by decide) c_234)
                obtain ⟨k9, hk9, hspl, hd1, hd2⟩ := (close_a (σ := σ) (on := decide (x8 / 64 % 2 = 1)) (show x8 % 12 ≤ 11 by omega) c_223).1 c_234
                refine lv_aload_n hx hb dX8_turnOf_237 rfl (lv_at hl 3 rfl) ?_
                refine lv_iload hx hb dX8_turnOf_238 (lv_at hl 1 rfl) ?_
                refine lv_iload hx hb dX8_turnOf_240 (lv_at hl 0 rfl) ?_
                refine jn_i (pcj := 257) (ls := ls) (st := [.int (nI (x8 % 12 + (if x8 / 16 % 2 = 0 then 1 else 4))), .int (nI (x8 % 12)), .ref sa]) (fun v9 => v9 = (bI (decide (x8 / 64 % 2 = 1)))) ?_ (fun jn257 => ?_)
                · intro v9 hv9
                  subst hv9
                  refine wr_call (wc := [aI cy sa 248 (mS σ)]) (va_runS (As := [.ref sa, .int (nI (x8 % 12)), .int (nI (x8 % 12 + (if x8 / 16 % 2 = 0 then 1 else 4))), .int (bI (decide (x8 / 64 % 2 = 1)))]) (rest := []) ⟨hx, hb, hml, hown, hts⟩ (c_X8_closeOn l g cy sa s.heap.size σ bd (x8 % 12) (x8 % 12 + (if x8 / 16 % 2 = 0 then 1 else 4)) k9 (decide (x8 / 64 % 2 = 1)) hwf (by omega) (by omega) hk9 hspl) ⟨(cB 4 hts wd15_9 wd1_5 wd15_7 rfl rfl (by decide +kernel) ⟨Nat.le_of_ble_eq_true rfl, Nat.le_of_ble_eq_true rfl⟩), hts _ wd15_8⟩ (ps hK hP hD hS hA hX [3] rfl rfl) rfl rfl hl.1 rfl (lv_room (Nat.le_of_ble_eq_true rfl)) dX8_turnOf_257 ⟨Nat.zero_le _, Nat.zero_le _⟩) hP hD hS hA [3] rfl rfl (fun _ => (rfl : ([sa] : List Nat) = [sa])) ?_
                  rintro _u9 H locs - hP hD hS
                  have hP : va_P g vwCl [(mo, .inr (6, [.int (nI rf), .ref a1, .int (nI z), .ref a2, .ref a3, .ref a4, .int (nI ac), .ref a5, .ref a6, .ref mw, .ref mh, .int (nI sp), .int (nI ou)])), aI cy mw 144 (mS wy), aI cy mh 8 (mS w9), aI cy sa 248 (mS (clS σ k9 (decide (x8 / 64 % 2 = 1))))] H := hP
                  have hD : va_D A [(mo, .inr (6, [.int (nI rf), .ref a1, .int (nI z), .ref a2, .ref a3, .ref a4, .int (nI ac), .ref a5, .ref a6, .ref mw, .ref mh, .int (nI sp), .int (nI ou)])), aI cy mw 144 (mS wy), aI cy mh 8 (mS w9), aI cy sa 248 (mS (clS σ k9 (decide (x8 / 64 % 2 = 1))))] := hD
                  show W _ _ _ _ _ _ _ _ _ _ _ _ _ _ _ (F0 mX 260 ls [.int (nI (ct (cmk (clS σ k9 (decide (x8 / 64 % 2 = 1)))).testBit 24))])
                  refine lv_pop hx hb dX8_turnOf_260 rfl ?_
                  refine lv_goto (tgt := 275) hx hb dX8_turnOf_261 (by decide) ?_
                  have heS := hpl.trans (hd1)
                  exact wr_v (wy, w9) rfl trivial (by rw [heS]; exact hP) hS hx hb hr dX8_turnOf_275 hlk
                · skip
                  refine lv_iload_n hx hb dX8_turnOf_242 rfl (lv_at hl 5 rfl) ?_
                  refine lv_bipush (v := (nI 64)) hx hb dX8_turnOf_243 (by decide) ?_
                  refine lv_idiv hx hb dX8_turnOf_245 (nI_ne0 (by omega) (by omega)) ?_
                  refine ti (pk_div (a := x8) (d := 64) (by omega) (by omega) (by omega)) ?_
                  refine lv_iconst (v := (nI 2)) hx hb dX8_turnOf_246 (by decide) ?_
                  refine lv_irem hx hb dX8_turnOf_247 (nI_ne0 (by omega) (by omega)) ?_
                  refine ti (pk_rem (a := (x8 / 64)) (d := 2) (by omega) (by omega) (by omega)) ?_
                  refine lv_iconst (v := (nI 1)) hx hb dX8_turnOf_248 (by decide) ?_
                  refine lv_icmp_ne (tgt := 256) hx hb dX8_turnOf_249 (by decide) (fun c_249 => ?_) (fun c_249 => ?_)
                  · have c_249 := (nc_ne9 (by omega) (by omega) c_249)
                    refine lv_iconst (v := (nI 0)) hx hb dX8_turnOf_256 (by decide) ?_
                    exact jn257 _ (by simp [bI, nI_0, nI_o, c_249])
                  · have c_249 := (nc_eq9 (by omega) (by omega) c_249)
                    refine lv_iconst (v := (nI 1)) hx hb dX8_turnOf_252 (by decide) ?_
                    refine lv_goto (tgt := 257) hx hb dX8_turnOf_253 (by decide) ?_
                    exact jn257 _ (by simp [bI, nI_0, nI_o, c_249])
          · skip
            refine lv_iload_n hx hb dX8_turnOf_196 rfl (lv_at hl 4 rfl) ?_
            refine lv_bipush (v := (nI 16)) hx hb dX8_turnOf_197 (by decide) ?_
            refine lv_idiv hx hb dX8_turnOf_199 (nI_ne0 (by omega) (by omega)) ?_
            refine ti (pk_div (a := x8) (d := 16) (by omega) (by omega) (by omega)) ?_
            refine lv_iconst (v := (nI 2)) hx hb dX8_turnOf_200 (by decide) ?_
            refine lv_irem hx hb dX8_turnOf_201 (nI_ne0 (by omega) (by omega)) ?_
            refine ti (pk_rem (a := (x8 / 16)) (d := 2) (by omega) (by omega) (by omega)) ?_
            refine lv_if_ne (tgt := 212) hx hb dX8_turnOf_202 (by decide) (fun c_202 => ?_) (fun c_202 => ?_)
            · have c_202 := (nz_ne c_202 (by omega))
              refine lv_iload hx hb dX8_turnOf_212 (lv_at hl 0 rfl) ?_
              refine lv_iconst (v := (nI 4)) hx hb dX8_turnOf_214 (by decide) ?_
              refine lv_iadd hx hb dX8_turnOf_215 ?_
              refine ti (nI_add (x8 % 12) 4) ?_
              exact jn216 _ (congrArg nI (by simp [c_202]))
            · have c_202 := (nz_eq c_202 (by omega))
              refine lv_iload hx hb dX8_turnOf_205 (lv_at hl 0 rfl) ?_
              refine lv_iconst (v := (nI 1)) hx hb dX8_turnOf_207 (by decide) ?_
              refine lv_iadd hx hb dX8_turnOf_208 ?_
              refine ti (nI_add (x8 % 12) 1) ?_
              refine lv_goto (tgt := 216) hx hb dX8_turnOf_209 (by decide) ?_
              exact jn216 _ (congrArg nI (by simp [c_202]))
      · have c_133 := (nc_eq9 (by omega) (by omega) c_133)
        have hpl : plR (8 * x8 + k8) σ = findR σ (nI (x8 % 6)) (nI (x8 / 8 % 8)) (nI (x8 / 64 % 12)) := (pl_m hk8).trans (by rw [if_neg c_1, if_neg (by omega), if_pos c_133])
        have hmq := ml_find (a := x8 % 6) (b := x8 / 8 % 8) (c := x8 / 64 % 12) hwf (by omega) (by omega) (by omega)
        rw [fi_e.1] at hmq
        refine lv_aload_n hx hb dX8_turnOf_136 rfl (lv_at hl 1 rfl) ?_
        refine lv_iload_n hx hb dX8_turnOf_137 rfl (lv_at hl 3 rfl) ?_
        refine lv_bipush (v := (nI 6)) hx hb dX8_turnOf_138 (by decide) ?_
        refine lv_irem hx hb dX8_turnOf_140 (nI_ne0 (by omega) (by omega)) ?_
        refine ti (pk_rem (a := x8) (d := 6) (by omega) (by omega) (by omega)) ?_
        refine rd_call (va_runS (As := [.ref sa, .int (nI (x8 % 6))]) (rest := []) ⟨hx, hb, hml, hown, hts⟩ (c_X8_isDog l g cy sa s.heap.size σ (nI (x8 % 6)) (by omega)) ⟨(cB 2 hts wd13_12 wd1_5 wd13_10 rfl rfl (by decide +kernel) ⟨Nat.le_of_ble_eq_true rfl, Nat.le_of_ble_eq_true rfl⟩), hts _ wd13_11⟩ (ps hK hP hD hS hA hX [3] rfl rfl) rfl rfl hl.1 rfl (lv_room (Nat.le_of_ble_eq_true rfl)) dX8_turnOf_141 ⟨Nat.zero_le _, Nat.zero_le _⟩) ?_
        show W _ _ _ _ _ _ _ _ _ _ _ _ _ _ _ (F0 mX 144 ls [.int (bI (hasR (σ 0) (nI (x8 % 6))))])
        refine ti (show (bI (hasR (σ 0) (nI (x8 % 6)))) = (bI (decide (x8 % 6 < σ 0))) from (congrArg bI (hasR_n (by omega) (by omega)))) ?_
        refine lv_if_eq (tgt := 275) hx hb dX8_turnOf_144 (by decide) (fun c_144 => ?_) (fun c_144 => ?_)
        · have c_144 := (bI_eq0.mp c_144)
          have c_144 : ¬ x8 % 6 < σ 0 := of_decide_eq_false c_144
          have heS := hpl.trans ((hmq.2 (Or.inl c_144)).1)
          exact wr_v (wy, w9) rfl trivial (by rw [heS]; exact hP) hS hx hb hr dX8_turnOf_275 hlk
        · have c_144 := (bI_ne0.mp c_144)
          have c_144 : x8 % 6 < σ 0 := of_decide_eq_true c_144
          have hdb := hwf.db c_144
          refine lv_aload_n hx hb dX8_turnOf_147 rfl (lv_at hl 1 rfl) ?_
          refine lv_iload_n hx hb dX8_turnOf_148 rfl (lv_at hl 3 rfl) ?_
          refine lv_bipush (v := (nI 6)) hx hb dX8_turnOf_149 (by decide) ?_
          refine lv_irem hx hb dX8_turnOf_151 (nI_ne0 (by omega) (by omega)) ?_
          refine ti (pk_rem (a := x8) (d := 6) (by omega) (by omega) (by omega)) ?_
          refine rd_call (va_runS (As := [.ref sa, .int (nI (x8 % 6))]) (rest := []) ⟨hx, hb, hml, hown, hts⟩ (c_X8_isMissing l g cy sa s.heap.size σ (x8 % 6) (by omega) (by omega)) ⟨(cB 2 hts wd12_20 wd1_5 wd12_18 rfl rfl (by decide +kernel) ⟨Nat.le_of_ble_eq_true rfl, Nat.le_of_ble_eq_true rfl⟩), hts _ wd12_19⟩ (ps hK hP hD hS hA hX [3] rfl rfl) rfl rfl hl.1 rfl (lv_room (Nat.le_of_ble_eq_true rfl)) dX8_turnOf_152 ⟨Nat.zero_le _, Nat.zero_le _⟩) ?_
          show W _ _ _ _ _ _ _ _ _ _ _ _ _ _ _ (F0 mX 155 ls [.int (bI (msg σ (x8 % 6)))])
          refine lv_if_eq (tgt := 275) hx hb dX8_turnOf_155 (by decide) (fun c_155 => ?_) (fun c_155 => ?_)
          · have c_155 := (bI_eq0.mp c_155)
            have heS := hpl.trans ((hmq.2 (Or.inr c_155)).1)
            exact wr_v (wy, w9) rfl trivial (by rw [heS]; exact hP) hS hx hb hr dX8_turnOf_275 hlk
          · have c_155 := (bI_ne0.mp c_155)
            refine lv_aload_n hx hb dX8_turnOf_158 rfl (lv_at hl 0 rfl) ?_
            refine lv_aload_n hx hb dX8_turnOf_159 rfl (lv_at hl 1 rfl) ?_
            refine lv_iload_n hx hb dX8_turnOf_160 rfl (lv_at hl 3 rfl) ?_
            refine lv_bipush (v := (nI 6)) hx hb dX8_turnOf_161 (by decide) ?_
            refine lv_irem hx hb dX8_turnOf_163 (nI_ne0 (by omega) (by omega)) ?_
            refine ti (pk_rem (a := x8) (d := 6) (by omega) (by omega) (by omega)) ?_
            refine lv_iload_n hx hb dX8_turnOf_164 rfl (lv_at hl 3 rfl) ?_
            refine lv_bipush (v := (nI 8)) hx hb dX8_turnOf_165 (by decide) ?_
            refine lv_idiv hx hb dX8_turnOf_167 (nI_ne0 (by omega) (by omega)) ?_
            refine ti (pk_div (a := x8) (d := 8) (by omega) (by omega) (by omega)) ?_
            refine lv_bipush (v := (nI 8)) hx hb dX8_turnOf_168 (by decide) ?_
            refine lv_irem hx hb dX8_turnOf_170 (nI_ne0 (by omega) (by omega)) ?_
            refine ti (pk_rem (a := (x8 / 8)) (d := 8) (by omega) (by omega) (by omega)) ?_
            refine lv_iload_n hx hb dX8_turnOf_171 rfl (lv_at hl 3 rfl) ?_
            refine lv_bipush (v := (nI 64)) hx hb dX8_turnOf_172 (by decide) ?_
            refine lv_idiv hx hb dX8_turnOf_174 (nI_ne0 (by omega) (by omega)) ?_
            refine ti (pk_div (a := x8) (d := 64) (by omega) (by omega) (by omega)) ?_
            refine lv_bipush (v := (nI 12)) hx hb dX8_turnOf_175 (by decide) ?_
            refine lv_irem hx hb dX8_turnOf_177 (nI_ne0 (by omega) (by omega)) ?_
            refine ti (pk_rem (a := (x8 / 64)) (d := 12) (by omega) (by omega) (by omega)) ?_
            refine wr_call (wc := [(mo, .inr (6, [.int (nI rf), .ref a1, .int (nI z), .ref a2, .ref a3, .ref a4, .int (nI ac), .ref a5, .ref a6, .ref mw, .ref mh, .int (nI sp), .int (nI ou)])), aI cy mw 144 (mS wy), aI cy mh 8 (mS w9), aI cy sa 248 (mS σ)]) (va_runV (As := [.ref sa, .int (nI (x8 % 6)), .int (nI ((x8 / 8) % 8)), .int (nI ((x8 / 64) % 12))]) (rest := []) ⟨hx, hb, hml, hown, hts⟩ (c_X8_findOn l g cy mo a1 a2 a3 a4 a5 a6 mw mh sa s.heap.size rf z ac sp ou wy σ bd w9 (x8 % 6) ((x8 / 8) % 8) ((x8 / 64) % 12) hwf (by omega) (by omega) (by omega) (by omega)) ⟨(cB 4 hts wd13_16 wd1_5 wd13_13 rfl rfl (by decide +kernel) ⟨Nat.le_of_ble_eq_true rfl, Nat.le_of_ble_eq_true rfl⟩), hts _ wd13_14, hts _ wd13_15⟩ (pv hK hP hD hS hA hX [0, 1, 2, 3] rfl rfl 6 0 rfl rfl) rfl rfl hl.1 rfl (lv_room (Nat.le_of_ble_eq_true rfl)) dX8_turnOf_178 ⟨Nat.zero_le _, Nat.zero_le _⟩) hP hD hS hA [0, 1, 2, 3] rfl rfl (fun _ => (rfl : ([mo, mw, mh, sa] : List Nat) = [mo, mw, mh, sa])) ?_
            rintro _u9 H locs - hP hD hS
            have hP : va_P g vwCl [(mo, .inr (6, [.int (nI rf), .ref a1, .int (nI z), .ref a2, .ref a3, .ref a4, .int (nI ac), .ref a5, .ref a6, .ref mw, .ref mh, .int (nI sp), .int (nI ou)])), aI cy mw 144 (mS (D σ)), aI cy mh 8 (mS (hOf σ (x8 % 6) ((x8 / 8) % 8) ((x8 / 64) % 12))), aI cy sa 248 (mS (findS σ (x8 % 6) ((x8 / 8) % 8) ((x8 / 64) % 12)))] H := hP
            have hD : va_D A [(mo, .inr (6, [.int (nI rf), .ref a1, .int (nI z), .ref a2, .ref a3, .ref a4, .int (nI ac), .ref a5, .ref a6, .ref mw, .ref mh, .int (nI sp), .int (nI ou)])), aI cy mw 144 (mS (D σ)), aI cy mh 8 (mS (hOf σ (x8 % 6) ((x8 / 8) % 8) ((x8 / 64) % 12))), aI cy sa 248 (mS (findS σ (x8 % 6) ((x8 / 8) % 8) ((x8 / 64) % 12)))] := hD
            show W _ _ _ _ _ _ _ _ _ _ _ _ _ _ _ (F0 mX 181 ls [.int (nI (shr σ (x8 % 6) ((x8 / 8) % 8) ((x8 / 64) % 12) ((x8 / 8) % 8)))])
            refine lv_pop hx hb dX8_turnOf_181 rfl ?_
            refine lv_goto (tgt := 275) hx hb dX8_turnOf_182 (by decide) ?_
            have heS := hpl.trans ((hmq.1 c_144 c_155).1)
            exact wr_v (D σ, hOf σ (x8 % 6) ((x8 / 8) % 8) ((x8 / 64) % 12)) rfl trivial (by rw [heS]; exact hP) hS hx hb hr dX8_turnOf_275 hlk
    · have c_57 := (nc_nle (by omega) (by omega) c_57)
      have hpl : plR (8 * x8 + k8) σ = sightR σ (nI (x8 % 8)) (nI (x8 / 8 % 12)) (nI (x8 / 128 % 256)) (nI (x8 / 32768 % 6)) (decide (x8 / 262144 % 2 = 1)) := (pl_m hk8).trans (by rw [if_neg c_1, if_pos (by omega)])
      have hmq := tl_sight (σ := σ) (a := x8 % 8) (b := x8 / 8 % 12) (c := x8 / 128 % 256) (g := x8 / 32768 % 6) (ph := decide (x8 / 262144 % 2 = 1)) hn0 hh2 (by omega) (by omega) (by omega) (by omega)
      refine lv_aload_n hx hb dX8_turnOf_60 rfl (lv_at hl 1 rfl) ?_
      refine lv_iconst (v := (nI 1)) hx hb dX8_turnOf_61 (by decide) ?_
      refine va_iald hx hb hK hP 3 0 rfl rfl (vp_in_nI (n := 1) (by omega) (by omega)) dX8_turnOf_62 ?_
      refine ti (show (mS σ) (nI 1).toNatClampNeg = nI (σ 1) from by rw [nI_clamp (by omega)]; rfl) ?_
      refine lv_bipush (v := (nI 20)) hx hb dX8_turnOf_63 (by decide) ?_
      refine lv_icmp_ge (tgt := 275) hx hb dX8_turnOf_65 (by decide) (fun c_65 => ?_) (fun c_65 => ?_)
      · have c_65 := (nc_le (by omega) (by omega) c_65)
        have heS := hpl.trans (if_neg (hmq.2 (Or.inl c_65)))
        exact wr_v (wy, w9) rfl trivial (by rw [heS]; exact hP) hS hx hb hr dX8_turnOf_275 hlk
      · have c_65 := (nc_nle (by omega) (by omega) c_65)
        refine lv_iload_n hx hb dX8_turnOf_68 rfl (lv_at hl 3 rfl) ?_
        refine lv_ldc hx hb hown (hts _ wd41_6) dX8_turnOf_69 ?_
        refine ti (show (32768 : Int32) = nI 32768 from by decide) ?_
        refine lv_idiv hx hb dX8_turnOf_71 (nI_ne0 (by omega) (by omega)) ?_
        refine ti (pk_div (a := x8) (d := 32768) (by omega) (by omega) (by omega)) ?_
        refine lv_bipush (v := (nI 6)) hx hb dX8_turnOf_72 (by decide) ?_
        refine lv_irem hx hb dX8_turnOf_74 (nI_ne0 (by omega) (by omega)) ?_
        refine ti (pk_rem (a := (x8 / 32768)) (d := 6) (by omega) (by omega) (by omega)) ?_
        refine lv_aload_n hx hb dX8_turnOf_75 rfl (lv_at hl 1 rfl) ?_
        refine lv_iconst (v := (nI 2)) hx hb dX8_turnOf_76 (by decide) ?_
        refine va_iald hx hb hK hP 3 0 rfl rfl (vp_in_nI (n := 2) (by omega) (by omega)) dX8_turnOf_77 ?_
        refine ti (show (mS σ) (nI 2).toNatClampNeg = nI (σ 2) from by rw [nI_clamp (by omega)]; rfl) ?_
        refine lv_icmp_gt (tgt := 275) hx hb dX8_turnOf_78 (by decide) (fun c_78 => ?_) (fun c_78 => ?_)
        · have c_78 := (nc_lt (by omega) (by omega) c_78)
          have heS := hpl.trans (if_neg (hmq.2 (Or.inr c_78)))
          exact wr_v (wy, w9) rfl trivial (by rw [heS]; exact hP) hS hx hb hr dX8_turnOf_275 hlk
        · have c_78 := (nc_nlt (by omega) (by omega) c_78)
          refine lv_aload_n hx hb dX8_turnOf_81 rfl (lv_at hl 1 rfl) ?_
          refine lv_iload_n hx hb dX8_turnOf_82 rfl (lv_at hl 3 rfl) ?_
          refine lv_bipush (v := (nI 8)) hx hb dX8_turnOf_83 (by decide) ?_
          refine lv_irem hx hb dX8_turnOf_85 (nI_ne0 (by omega) (by omega)) ?_
          refine ti (pk_rem (a := x8) (d := 8) (by omega) (by omega) (by omega)) ?_
          refine lv_iload_n hx hb dX8_turnOf_86 rfl (lv_at hl 3 rfl) ?_
          refine lv_bipush (v := (nI 8)) hx hb dX8_turnOf_87 (by decide) ?_
          refine lv_idiv hx hb dX8_turnOf_89 (nI_ne0 (by omega) (by omega)) ?_
          refine ti (pk_div (a := x8) (d := 8) (by omega) (by omega) (by omega)) ?_
          refine lv_bipush (v := (nI 12)) hx hb dX8_turnOf_90 (by decide) ?_
          refine lv_irem hx hb dX8_turnOf_92 (nI_ne0 (by omega) (by omega)) ?_
          refine ti (pk_rem (a := (x8 / 8)) (d := 12) (by omega) (by omega) (by omega)) ?_
          refine lv_iload_n hx hb dX8_turnOf_93 rfl (lv_at hl 3 rfl) ?_
          refine lv_sipush (v := (nI 128)) hx hb dX8_turnOf_94 (by decide) ?_
          refine lv_idiv hx hb dX8_turnOf_97 (nI_ne0 (by omega) (by omega)) ?_
          refine ti (pk_div (a := x8) (d := 128) (by omega) (by omega) (by omega)) ?_
          refine lv_sipush (v := (nI 256)) hx hb dX8_turnOf_98 (by decide) ?_
          refine lv_irem hx hb dX8_turnOf_101 (nI_ne0 (by omega) (by omega)) ?_
          refine ti (pk_rem (a := (x8 / 128)) (d := 256) (by omega) (by omega) (by omega)) ?_
          refine lv_iload_n hx hb dX8_turnOf_102 rfl (lv_at hl 3 rfl) ?_
          refine lv_ldc hx hb hown (hts _ wd41_6) dX8_turnOf_103 ?_
          refine ti (show (32768 : Int32) = nI 32768 from by decide) ?_
          refine lv_idiv hx hb dX8_turnOf_105 (nI_ne0 (by omega) (by omega)) ?_
          refine ti (pk_div (a := x8) (d := 32768) (by omega) (by omega) (by omega)) ?_
          refine lv_bipush (v := (nI 6)) hx hb dX8_turnOf_106 (by decide) ?_
          refine lv_irem hx hb dX8_turnOf_108 (nI_ne0 (by omega) (by omega)) ?_
          refine ti (pk_rem (a := (x8 / 32768)) (d := 6) (by omega) (by omega) (by omega)) ?_
          refine jn_i (pcj := 124) (ls := ls) (st := [.int (nI ((x8 / 32768) % 6)), .int (nI ((x8 / 128) % 256)), .int (nI ((x8 / 8) % 12)), .int (nI (x8 % 8)), .ref sa]) (fun v9 => v9 = (bI (decide (x8 / 262144 % 2 = 1)))) ?_ (fun jn124 => ?_)
          · intro v9 hv9
            subst hv9
            refine wr_call (wc := [aI cy sa 248 (mS σ)]) (va_runS (As := [.ref sa, .int (nI (x8 % 8)), .int (nI ((x8 / 8) % 12)), .int (nI ((x8 / 128) % 256)), .int (nI ((x8 / 32768) % 6)), .int (bI (decide (x8 / 262144 % 2 = 1)))]) (rest := []) ⟨hx, hb, hml, hown, hts⟩ (c_X8_sightOn l g cy sa s.heap.size σ bd (x8 % 8) ((x8 / 8) % 12) ((x8 / 128) % 256) ((x8 / 32768) % 6) (decide (x8 / 262144 % 2 = 1)) hwf (by omega) (by omega) (by omega)) ⟨(cB 6 hts wd12_14 wd1_5 wd12_12 rfl rfl (by decide +kernel) ⟨Nat.le_of_ble_eq_true rfl, Nat.le_of_ble_eq_true rfl⟩), hts _ wd12_13⟩ (ps hK hP hD hS hA hX [3] rfl rfl) rfl rfl hl.1 rfl (lv_room (Nat.le_of_ble_eq_true rfl)) dX8_turnOf_124 ⟨Nat.zero_le _, Nat.zero_le _⟩) hP hD hS hA [3] rfl rfl (fun _ => (rfl : ([sa] : List Nat) = [sa])) ?_
            rintro _u9 H locs - hP hD hS
            have hP : va_P g vwCl [(mo, .inr (6, [.int (nI rf), .ref a1, .int (nI z), .ref a2, .ref a3, .ref a4, .int (nI ac), .ref a5, .ref a6, .ref mw, .ref mh, .int (nI sp), .int (nI ou)])), aI cy mw 144 (mS wy), aI cy mh 8 (mS w9), aI cy sa 248 (mS (sightS σ (x8 % 8) ((x8 / 8) % 12) ((x8 / 128) % 256) ((x8 / 32768) % 6) (if (decide (x8 / 262144 % 2 = 1)) then 1 else 0)))] H := hP
            have hD : va_D A [(mo, .inr (6, [.int (nI rf), .ref a1, .int (nI z), .ref a2, .ref a3, .ref a4, .int (nI ac), .ref a5, .ref a6, .ref mw, .ref mh, .int (nI sp), .int (nI ou)])), aI cy mw 144 (mS wy), aI cy mh 8 (mS w9), aI cy sa 248 (mS (sightS σ (x8 % 8) ((x8 / 8) % 12) ((x8 / 128) % 256) ((x8 / 32768) % 6) (if (decide (x8 / 262144 % 2 = 1)) then 1 else 0)))] := hD
            show W _ _ _ _ _ _ _ _ _ _ _ _ _ _ _ (F0 mX 127 ls [.int (nI (mea σ ((x8 / 128) % 256) (σ 2 - ((x8 / 32768) % 6))))])
            refine lv_pop hx hb dX8_turnOf_127 rfl ?_
            refine lv_goto (tgt := 275) hx hb dX8_turnOf_128 (by decide) ?_
            have heS := hpl.trans ((sightR_0 (by omega) (by omega) (by omega) (by omega) (hmq.1 c_65 c_78)).1)
            exact wr_v (wy, w9) rfl trivial (by rw [heS]; exact hP) hS hx hb hr dX8_turnOf_275 hlk
          · skip
            refine lv_iload_n hx hb dX8_turnOf_109 rfl (lv_at hl 3 rfl) ?_
            refine lv_ldc hx hb hown (hts _ wd41_7) dX8_turnOf_110 ?_
            refine ti (show (262144 : Int32) = nI 262144 from by decide) ?_
            refine lv_idiv hx hb dX8_turnOf_112 (nI_ne0 (by omega) (by omega)) ?_
            refine ti (pk_div (a := x8) (d := 262144) (by omega) (by omega) (by omega)) ?_
            refine lv_iconst (v := (nI 2)) hx hb dX8_turnOf_113 (by decide) ?_
            refine lv_irem hx hb dX8_turnOf_114 (nI_ne0 (by omega) (by omega)) ?_
            refine ti (pk_rem (a := (x8 / 262144)) (d := 2) (by omega) (by omega) (by omega)) ?_
            refine lv_iconst (v := (nI 1)) hx hb dX8_turnOf_115 (by decide) ?_
            refine lv_icmp_ne (tgt := 123) hx hb dX8_turnOf_116 (by decide) (fun c_116 => ?_) (fun c_116 => ?_)
            · have c_116 := (nc_ne9 (by omega) (by omega) c_116)
              refine lv_iconst (v := (nI 0)) hx hb dX8_turnOf_123 (by decide) ?_
              exact jn124 _ (by simp [bI, nI_0, nI_o, c_116])
            · have c_116 := (nc_eq9 (by omega) (by omega) c_116)
              refine lv_iconst (v := (nI 1)) hx hb dX8_turnOf_119 (by decide) ?_
              refine lv_goto (tgt := 124) hx hb dX8_turnOf_120 (by decide) ?_
              exact jn124 _ (by simp [bI, nI_0, nI_o, c_116])
  · have c_1 := (nz_eq c_1 (by omega))
    have hpl : plR (8 * x8 + k8) σ = loseR σ (nI (1 + x8 % 255)) (nI (1 + x8 / 256 % 3)) (nI (x8 / 1024 % 12)) (nI (1 + x8 / 16384 % 500)) := (pl_m hk8).trans (by rw [if_pos c_1])
    have hmq := ml_lose (σ := σ) (a := 1 + x8 % 255) (b := 1 + x8 / 256 % 3) (c := x8 / 1024 % 12) (d := 1 + x8 / 16384 % 500) (by omega) (by omega) (by omega) (by omega)
    rw [lo_e] at hmq
    have hmq : (σ 0 < 6 → loseR σ (nI (1 + x8 % 255)) (nI (1 + x8 / 256 % 3)) (nI (x8 / 1024 % 12)) (nI (1 + x8 / 16384 % 500)) = _) ∧ (6 ≤ σ 0 → _ = σ) := ⟨fun h8 => (hmq.1 h8).1, fun h8 => (hmq.2 h8).1⟩
    refine lv_aload_n hx hb dX8_turnOf_4 rfl (lv_at hl 1 rfl) ?_
    refine lv_iconst (v := (nI 0)) hx hb dX8_turnOf_5 (by decide) ?_
    refine va_iald hx hb hK hP 3 0 rfl rfl (vp_in_nI (n := 0) (by omega) (by omega)) dX8_turnOf_6 ?_
    refine ti (show (mS σ) (nI 0).toNatClampNeg = nI (σ 0) from by rw [nI_clamp (by omega)]; rfl) ?_
    refine lv_bipush (v := (nI 6)) hx hb dX8_turnOf_7 (by decide) ?_
    refine lv_icmp_ge (tgt := 275) hx hb dX8_turnOf_9 (by decide) (fun c_9 => ?_) (fun c_9 => ?_)
    · have c_9 := (nc_le (by omega) (by omega) c_9)
      have heS := hpl.trans (hmq.2 c_9)
      exact wr_v (wy, w9) rfl trivial (by rw [heS]; exact hP) hS hx hb hr dX8_turnOf_275 hlk
    · have c_9 := (nc_nle (by omega) (by omega) c_9)
      refine lv_aload_n hx hb dX8_turnOf_12 rfl (lv_at hl 1 rfl) ?_
      refine lv_iconst (v := (nI 1)) hx hb dX8_turnOf_13 (by decide) ?_
      refine lv_iload_n hx hb dX8_turnOf_14 rfl (lv_at hl 3 rfl) ?_
      refine lv_sipush (v := (nI 255)) hx hb dX8_turnOf_15 (by decide) ?_
      refine lv_irem hx hb dX8_turnOf_18 (nI_ne0 (by omega) (by omega)) ?_
      refine ti (pk_rem (a := x8) (d := 255) (by omega) (by omega) (by omega)) ?_
      refine lv_iadd hx hb dX8_turnOf_19 ?_
      refine ti (nI_add 1 (x8 % 255)) ?_
      refine lv_iconst (v := (nI 1)) hx hb dX8_turnOf_20 (by decide) ?_
      refine lv_iload_n hx hb dX8_turnOf_21 rfl (lv_at hl 3 rfl) ?_
      refine lv_sipush (v := (nI 256)) hx hb dX8_turnOf_22 (by decide) ?_
      refine lv_idiv hx hb dX8_turnOf_25 (nI_ne0 (by omega) (by omega)) ?_
      refine ti (pk_div (a := x8) (d := 256) (by omega) (by omega) (by omega)) ?_
      refine lv_iconst (v := (nI 3)) hx hb dX8_turnOf_26 (by decide) ?_
      refine lv_irem hx hb dX8_turnOf_27 (nI_ne0 (by omega) (by omega)) ?_
      refine ti (pk_rem (a := (x8 / 256)) (d := 3) (by omega) (by omega) (by omega)) ?_
      refine lv_iadd hx hb dX8_turnOf_28 ?_
      refine ti (nI_add 1 ((x8 / 256) % 3)) ?_
      refine lv_iload_n hx hb dX8_turnOf_29 rfl (lv_at hl 3 rfl) ?_
      refine lv_sipush (v := (nI 1024)) hx hb dX8_turnOf_30 (by decide) ?_
      refine lv_idiv hx hb dX8_turnOf_33 (nI_ne0 (by omega) (by omega)) ?_
      refine ti (pk_div (a := x8) (d := 1024) (by omega) (by omega) (by omega)) ?_
      refine lv_bipush (v := (nI 12)) hx hb dX8_turnOf_34 (by decide) ?_
      refine lv_irem hx hb dX8_turnOf_36 (nI_ne0 (by omega) (by omega)) ?_
      refine ti (pk_rem (a := (x8 / 1024)) (d := 12) (by omega) (by omega) (by omega)) ?_
      refine lv_iconst (v := (nI 1)) hx hb dX8_turnOf_37 (by decide) ?_
      refine lv_iload_n hx hb dX8_turnOf_38 rfl (lv_at hl 3 rfl) ?_
      refine lv_sipush (v := (nI 16384)) hx hb dX8_turnOf_39 (by decide) ?_
      refine lv_idiv hx hb dX8_turnOf_42 (nI_ne0 (by omega) (by omega)) ?_
      refine ti (pk_div (a := x8) (d := 16384) (by omega) (by omega) (by omega)) ?_
      refine lv_sipush (v := (nI 500)) hx hb dX8_turnOf_43 (by decide) ?_
      refine lv_irem hx hb dX8_turnOf_46 (nI_ne0 (by omega) (by omega)) ?_
      refine ti (pk_rem (a := (x8 / 16384)) (d := 500) (by omega) (by omega) (by omega)) ?_
      refine lv_iadd hx hb dX8_turnOf_47 ?_
      refine ti (nI_add 1 ((x8 / 16384) % 500)) ?_
      refine wr_call (wc := [aI cy sa 248 (mS σ)]) (va_runS (As := [.ref sa, .int (nI (1 + (x8 % 255))), .int (nI (1 + ((x8 / 256) % 3))), .int (nI ((x8 / 1024) % 12)), .int (nI (1 + ((x8 / 16384) % 500)))]) (rest := []) ⟨hx, hb, hml, hown, hts⟩ (c_X8_loseOn l g cy sa s.heap.size σ (1 + (x8 % 255)) (1 + ((x8 / 256) % 3)) ((x8 / 1024) % 12) (1 + ((x8 / 16384) % 500)) (by omega)) ⟨(cB 5 hts wd11_19 wd1_5 wd11_17 rfl rfl (by decide +kernel) ⟨Nat.le_of_ble_eq_true rfl, Nat.le_of_ble_eq_true rfl⟩), hts _ wd11_18⟩ (ps hK hP hD hS hA hX [3] rfl rfl) rfl rfl hl.1 rfl (lv_room (Nat.le_of_ble_eq_true rfl)) dX8_turnOf_48 ⟨Nat.zero_le _, Nat.zero_le _⟩) hP hD hS hA [3] rfl rfl (fun _ => (rfl : ([sa] : List Nat) = [sa])) ?_
      rintro _u9 H locs - hP hD hS
      have hP : va_P g vwCl [(mo, .inr (6, [.int (nI rf), .ref a1, .int (nI z), .ref a2, .ref a3, .ref a4, .int (nI ac), .ref a5, .ref a6, .ref mw, .ref mh, .int (nI sp), .int (nI ou)])), aI cy mw 144 (mS wy), aI cy mh 8 (mS w9), aI cy sa 248 (mS (loseS σ (1 + (x8 % 255)) (1 + ((x8 / 256) % 3)) ((x8 / 1024) % 12) (1 + ((x8 / 16384) % 500))))] H := hP
      have hD : va_D A [(mo, .inr (6, [.int (nI rf), .ref a1, .int (nI z), .ref a2, .ref a3, .ref a4, .int (nI ac), .ref a5, .ref a6, .ref mw, .ref mh, .int (nI sp), .int (nI ou)])), aI cy mw 144 (mS wy), aI cy mh 8 (mS w9), aI cy sa 248 (mS (loseS σ (1 + (x8 % 255)) (1 + ((x8 / 256) % 3)) ((x8 / 1024) % 12) (1 + ((x8 / 16384) % 500))))] := hD
      show W _ _ _ _ _ _ _ _ _ _ _ _ _ _ _ (F0 mX 51 ls [.int (nI (σ 0))])
      refine lv_pop hx hb dX8_turnOf_51 rfl ?_
      refine lv_goto (tgt := 275) hx hb dX8_turnOf_52 (by decide) ?_
      have heS := hpl.trans (hmq.1 c_9)
      exact wr_v (wy, w9) rfl trivial (by rw [heS]; exact hP) hS hx hb hr dX8_turnOf_275 hlk
set_option maxHeartbeats 4000000 in
set_option maxRecDepth 100000 in
theorem c_X8_command (l : Launch) (g : va_G) (cy : Nat → ClassId) (sz : Nat) (ma : Nat → Nat) (σ : Nat → Nat) (dy : Nat → Nat) (kp : Nat → Nat) (wy : Nat → Nat) (hp : Nat → Nat) (sp : Nat) (ou : Nat) (rf : Nat) (no : Nat → Nat) (n : Nat) (fl : Nat → Bool) (tx : Nat → Nat) (ln : Nat) (bd : Nat) (kd : Nat) (re : Nat) (hwf : WF bd σ) (hkd : kd < 10) (hre : re < 100000) : Met l yX8_command (Cond.code yX8_command cX8_command 12 (some .boolean) :: wsL_law) ({ frames := 6, cells := 0, slots := 0, locals := 148 } : Room) (va_Pc [.ref (ma 0), .int (nI kd), .int (nI re)] (pr g cy [(ma 0, .inr (6, [.int (nI rf), .ref (ma 1), .int (nI ln), .ref (ma 2), .ref (ma 3), .ref (ma 4), .int (nI n), .ref (ma 5), .ref (ma 6), .ref (ma 7), .ref (ma 8), .int (nI sp), .int (nI ou)])), aI cy (ma 1) 120 (mS tx), aI cy (ma 2) 248 (mS no), aI cy (ma 3) 248 (mS σ), aI cy (ma 4) 3472 (mS dy), aI cy (ma 5) 496 (mS kp), aZ cy (ma 6) 2 (fun j => bI (fl j)), aI cy (ma 7) 144 (mS wy), aI cy (ma 8) 8 (mS hp)] sz)) (wr_Q (fun u9 : (Nat → Nat) × (Nat → Nat) × (Nat → Nat) => (some (.int (bI (scB (100000 * kd + re) σ))))) (fun u9 : (Nat → Nat) × (Nat → Nat) × (Nat → Nat) => (scB (100000 * kd + re) σ = true → u9.1 = scS (100000 * kd + re) σ)) (fun u9 : (Nat → Nat) × (Nat → Nat) × (Nat → Nat) => [(ma 0, .inr (6, [.int (nI rf), .ref (ma 1), .int (nI ln), .ref (ma 2), .ref (ma 3), .ref (ma 4), .int (nI n), .ref (ma 5), .ref (ma 6), .ref (ma 7), .ref (ma 8), .int (nI sp), .int (nI ou)])), aI cy (ma 1) 120 (mS tx), aI cy (ma 2) 248 (mS no), aI cy (ma 3) 248 (mS u9.1), aI cy (ma 4) 3472 (mS dy), aI cy (ma 5) 496 (mS kp), aZ cy (ma 6) 2 (fun j => bI (fl j)), aI cy (ma 7) 144 (mS u9.2.1), aI cy (ma 8) 8 (mS u9.2.2)]) g (va_A [(ma 0, .inr (6, [.int (nI rf), .ref (ma 1), .int (nI ln), .ref (ma 2), .ref (ma 3), .ref (ma 4), .int (nI n), .ref (ma 5), .ref (ma 6), .ref (ma 7), .ref (ma 8), .int (nI sp), .int (nI ou)])), aI cy (ma 1) 120 (mS tx), aI cy (ma 2) 248 (mS no), aI cy (ma 3) 248 (mS σ), aI cy (ma 4) 3472 (mS dy), aI cy (ma 5) 496 (mS kp), aZ cy (ma 6) 2 (fun j => bI (fl j)), aI cy (ma 7) 144 (mS wy), aI cy (ma 8) 8 (mS hp)] sz)) 0 0 (va_A [(ma 0, .inr (6, [.int (nI rf), .ref (ma 1), .int (nI ln), .ref (ma 2), .ref (ma 3), .ref (ma 4), .int (nI n), .ref (ma 5), .ref (ma 6), .ref (ma 7), .ref (ma 8), .int (nI sp), .int (nI ou)])), aI cy (ma 1) 120 (mS tx), aI cy (ma 2) 248 (mS no), aI cy (ma 3) 248 (mS σ), aI cy (ma 4) 3472 (mS dy), aI cy (ma 5) 496 (mS kp), aZ cy (ma 6) 2 (fun j => bI (fl j)), aI cy (ma 7) 144 (mS wy), aI cy (ma 8) 8 (mS hp)] sz) := by
  refine mt_of (cc := cX8_command) (maxL := 12) (ret := (some .boolean)) (by decide +kernel) (Nat.le_of_ble_eq_true rfl) ?_
  intro pX eX s mX below meth cX ls A hx hb hr hml hown hts hlk hin hsz hAe hA hP hD hK hX hl
  subst hsz
  rw [← hAe]
  clear hAe
  have hl : lv_has ls 12 [(0, .ref (ma 0)), (1, .int (nI kd)), (2, .int (nI re))] := hl
  have hS : va_S A s.heap s.heap [] := va_S.rf
  have hn0 := hwf.n0
  have hn1 := hwf.n1
  have hh2 := hwf.h2
  refine lv_iload_n hx hb dX8_command_0 rfl (lv_at hl 2 rfl) ?_
  refine lv_sipush (v := (nI 10000)) hx hb dX8_command_1 (by decide) ?_
  refine lv_idiv hx hb dX8_command_4 (nI_ne0 (by omega) (by omega)) ?_
  refine ti (pk_div (a := re) (d := 10000) (by omega) (by omega) (by omega)) ?_
  refine lv_istore_n (lv' := [(3, .int (nI (re / 10000))), (0, .ref (ma 0)), (1, .int (nI kd)), (2, .int (nI re))]) hx hb dX8_command_5 rfl hl (by decide) rfl (fun ls hl => ?_)
  refine lv_iload_n hx hb dX8_command_6 rfl (lv_at hl 3 rfl) ?_
  refine lv_sipush (v := (nI 1000)) hx hb dX8_command_7 (by decide) ?_
  refine lv_idiv hx hb dX8_command_10 (nI_ne0 (by omega) (by omega)) ?_
  refine ti (pk_div (a := re) (d := 1000) (by omega) (by omega) (by omega)) ?_
  refine lv_bipush (v := (nI 10)) hx hb dX8_command_11 (by decide) ?_
  refine lv_irem hx hb dX8_command_13 (nI_ne0 (by omega) (by omega)) ?_
  refine ti (pk_rem (a := (re / 1000)) (d := 10) (by omega) (by omega) (by omega)) ?_
  refine lv_istore (lv' := [(4, .int (nI ((re / 1000) % 10))), (3, .int (nI (re / 10000))), (0, .ref (ma 0)), (1, .int (nI kd)), (2, .int (nI re))]) hx hb dX8_command_14 hl (by decide) rfl (fun ls hl => ?_)
  refine lv_iload_n hx hb dX8_command_16 rfl (lv_at hl 4 rfl) ?_
  refine lv_sipush (v := (nI 1000)) hx hb dX8_command_17 (by decide) ?_
  refine lv_idiv hx hb dX8_command_20 (nI_ne0 (by omega) (by omega)) ?_
  refine ti (pk_div (a := re) (d := 1000) (by omega) (by omega) (by omega)) ?_
  refine lv_istore (lv' := [(5, .int (nI (re / 1000))), (4, .int (nI ((re / 1000) % 10))), (3, .int (nI (re / 10000))), (0, .ref (ma 0)), (1, .int (nI kd)), (2, .int (nI re))]) hx hb dX8_command_21 hl (by decide) rfl (fun ls hl => ?_)
  refine lv_iload_n hx hb dX8_command_23 rfl (lv_at hl 5 rfl) ?_
  refine lv_bipush (v := (nI 100)) hx hb dX8_command_24 (by decide) ?_
  refine lv_idiv hx hb dX8_command_26 (nI_ne0 (by omega) (by omega)) ?_
  refine ti (pk_div (a := re) (d := 100) (by omega) (by omega) (by omega)) ?_
  refine lv_bipush (v := (nI 100)) hx hb dX8_command_27 (by decide) ?_
  refine lv_irem hx hb dX8_command_29 (nI_ne0 (by omega) (by omega)) ?_
  refine ti (pk_rem (a := (re / 100)) (d := 100) (by omega) (by omega) (by omega)) ?_
  refine lv_istore (lv' := [(6, .int (nI ((re / 100) % 100))), (5, .int (nI (re / 1000))), (4, .int (nI ((re / 1000) % 10))), (3, .int (nI (re / 10000))), (0, .ref (ma 0)), (1, .int (nI kd)), (2, .int (nI re))]) hx hb dX8_command_30 hl (by decide) rfl (fun ls hl => ?_)
  refine lv_iload_n hx hb dX8_command_32 rfl (lv_at hl 6 rfl) ?_
  refine lv_bipush (v := (nI 10)) hx hb dX8_command_33 (by decide) ?_
  refine lv_idiv hx hb dX8_command_35 (nI_ne0 (by omega) (by omega)) ?_
  refine ti (pk_div (a := re) (d := 10) (by omega) (by omega) (by omega)) ?_
  refine lv_bipush (v := (nI 100)) hx hb dX8_command_36 (by decide) ?_
  refine lv_irem hx hb dX8_command_38 (nI_ne0 (by omega) (by omega)) ?_
  refine ti (pk_rem (a := (re / 10)) (d := 100) (by omega) (by omega) (by omega)) ?_
  refine lv_istore (lv' := [(7, .int (nI ((re / 10) % 100))), (6, .int (nI ((re / 100) % 100))), (5, .int (nI (re / 1000))), (4, .int (nI ((re / 1000) % 10))), (3, .int (nI (re / 10000))), (0, .ref (ma 0)), (1, .int (nI kd)), (2, .int (nI re))]) hx hb dX8_command_39 hl (by decide) rfl (fun ls hl => ?_)
  refine lv_iload_n hx hb dX8_command_41 rfl (lv_at hl 7 rfl) ?_
  refine lv_bipush (v := (nI 10)) hx hb dX8_command_42 (by decide) ?_
  refine lv_idiv hx hb dX8_command_44 (nI_ne0 (by omega) (by omega)) ?_
  refine ti (pk_div (a := re) (d := 10) (by omega) (by omega) (by omega)) ?_
  refine lv_bipush (v := (nI 10)) hx hb dX8_command_45 (by decide) ?_
  refine lv_irem hx hb dX8_command_47 (nI_ne0 (by omega) (by omega)) ?_
  refine ti (pk_rem (a := (re / 10)) (d := 10) (by omega) (by omega) (by omega)) ?_
  refine lv_istore (lv' := [(8, .int (nI ((re / 10) % 10))), (7, .int (nI ((re / 10) % 100))), (6, .int (nI ((re / 100) % 100))), (5, .int (nI (re / 1000))), (4, .int (nI ((re / 1000) % 10))), (3, .int (nI (re / 10000))), (0, .ref (ma 0)), (1, .int (nI kd)), (2, .int (nI re))]) hx hb dX8_command_48 hl (by decide) rfl (fun ls hl => ?_)
  refine lv_iload_n hx hb dX8_command_50 rfl (lv_at hl 8 rfl) ?_
  refine lv_bipush (v := (nI 10)) hx hb dX8_command_51 (by decide) ?_
  refine lv_irem hx hb dX8_command_53 (nI_ne0 (by omega) (by omega)) ?_
  refine ti (pk_rem (a := re) (d := 10) (by omega) (by omega) (by omega)) ?_
  refine lv_istore (lv' := [(9, .int (nI (re % 10))), (8, .int (nI ((re / 10) % 10))), (7, .int (nI ((re / 10) % 100))), (6, .int (nI ((re / 100) % 100))), (5, .int (nI (re / 1000))), (4, .int (nI ((re / 1000) % 10))), (3, .int (nI (re / 10000))), (0, .ref (ma 0)), (1, .int (nI kd)), (2, .int (nI re))]) hx hb dX8_command_54 hl (by decide) rfl (fun ls hl => ?_)
  refine lv_iload_n hx hb dX8_command_56 rfl (lv_at hl 9 rfl) ?_
  refine lv_sipush (v := (nI 1000)) hx hb dX8_command_57 (by decide) ?_
  refine lv_irem hx hb dX8_command_60 (nI_ne0 (by omega) (by omega)) ?_
  refine ti (pk_rem (a := re) (d := 1000) (by omega) (by omega) (by omega)) ?_
  refine lv_istore (lv' := [(10, .int (nI (re % 1000))), (9, .int (nI (re % 10))), (8, .int (nI ((re / 10) % 10))), (7, .int (nI ((re / 10) % 100))), (6, .int (nI ((re / 100) % 100))), (5, .int (nI (re / 1000))), (4, .int (nI ((re / 1000) % 10))), (3, .int (nI (re / 10000))), (0, .ref (ma 0)), (1, .int (nI kd)), (2, .int (nI re))]) hx hb dX8_command_61 hl (by decide) rfl (fun ls hl => ?_)
  refine lv_iload_n hx hb dX8_command_63 rfl (lv_at hl 10 rfl) ?_
  refine lv_bipush (v := (nI 100)) hx hb dX8_command_64 (by decide) ?_
  refine lv_irem hx hb dX8_command_66 (nI_ne0 (by omega) (by omega)) ?_
  refine ti (pk_rem (a := re) (d := 100) (by omega) (by omega) (by omega)) ?_
  refine lv_istore (lv' := [(11, .int (nI (re % 100))), (10, .int (nI (re % 1000))), (9, .int (nI (re % 10))), (8, .int (nI ((re / 10) % 10))), (7, .int (nI ((re / 10) % 100))), (6, .int (nI ((re / 100) % 100))), (5, .int (nI (re / 1000))), (4, .int (nI ((re / 1000) % 10))), (3, .int (nI (re / 10000))), (0, .ref (ma 0)), (1, .int (nI kd)), (2, .int (nI re))]) hx hb dX8_command_67 hl (by decide) rfl (fun ls hl => ?_)
  refine lv_iload_n hx hb dX8_command_69 rfl (lv_at hl 10 rfl) ?_
  rcases sw_tab 1 9 (by decide) (nI kd) with h9 | ⟨j9, h9, c_70⟩
  · have c_70 := h9
    refine lv_tableOut (tgt := 514) hx hb dX8_command_70 (by omega) (by decide) ?_
    have h70 : kd = 0 := by rw [nI_toInt (by omega)] at c_70; omega
    have hsB : scB (100000 * kd + re) σ = false := by rw [h70]; exact (sc_m hre).1
    have hsS : True := trivial
    refine lv_iconst (v := (nI 0)) hx hb dX8_command_514 (by decide) ?_
    have heB : scB (100000 * kd + re) σ = false := hsB.trans (rfl)
    exact wr_z (b := (scB (100000 * kd + re) σ)) (σ, wy, hp) (by rw [heB]; rfl) rfl (fun h8 => absurd h8 (by rw [heB]; exact Bool.false_ne_true)) hP hS hx hb hr dX8_command_515 hlk
  · rcases (show j9 = 0 ∨ j9 = 1 ∨ j9 = 2 ∨ j9 = 3 ∨ j9 = 4 ∨ j9 = 5 ∨ j9 = 6 ∨ j9 = 7 ∨ j9 = 8 by omega) with rfl | rfl | rfl | rfl | rfl | rfl | rfl | rfl | rfl
    · have c_70 : (nI kd) = nI 1 := c_70
      refine lv_tableIn (tgt := 120) (off := 50) hx hb dX8_command_70 (by rw [c_70]; decide) (by rw [c_70]; decide) (by rw [c_70]; decide) (by decide) ?_
      have c_70 : kd = 1 := nc_eq (by omega) (by decide) c_70
      have hsB : scB (100000 * kd + re) σ = (decide (re / 10000 = 0) && (decide (re / 100 % 100 = 0) && !decide (nI (hoursA σ (nI (re % 100))) = nI NN2))) := by rw [c_70]; exact (sc_m hre).1
      have hsS : scS (100000 * kd + re) σ = (if re / 10000 = 0 ∧ re / 100 % 100 = 0 then hoursR σ (nI (re % 100)) else σ) := by rw [c_70]; exact (sc_m hre).2
      refine lv_iload_n hx hb dX8_command_120 rfl (lv_at hl 11 rfl) ?_
      refine lv_i2l (v := (nI re).toInt64) hx hb dX8_command_121 rfl ?_
      refine lv_lconst (v := 1) hx hb dX8_command_122 rfl ?_
      refine lv_ldc2 hx hb hown (hts _ wd31_11) dX8_command_123 ?_
      refine rd_call (va_runS (As := [.long ((nI re).toInt64), .long (1 : Int64), .long (99 : Int64)]) (rest := []) ⟨hx, hb, hml, hown, hts⟩ (c_X8_in l ((nI re).toInt64) (1 : Int64) (99 : Int64) ) ⟨(cB 3 hts wd7_17 wd1_5 wd7_15 rfl rfl (by decide +kernel) ⟨Nat.le_of_ble_eq_true rfl, Nat.le_of_ble_eq_true rfl⟩), hts _ wd7_16⟩ p0 rfl rfl hl.1 rfl (lv_room (Nat.le_of_ble_eq_true rfl)) dX8_command_126 ⟨Nat.zero_le _, Nat.zero_le _⟩) ?_
      show W _ _ _ _ _ _ _ _ _ _ _ _ _ _ _ (F0 mX 129 ls [.int (bI (inL ((nI re).toInt64) (1 : Int64) (99 : Int64)))])
      refine ti (show (bI (inL ((nI re).toInt64) (1 : Int64) (99 : Int64))) = (bI (decide (1 ≤ re) && decide (re ≤ 99))) from ((congrArg bI (inL_c (a := 1) (b := 99) (by decide) (by decide))).trans (congrArg bI (inR_n (by omega) (by decide) (by decide))))) ?_
      refine lv_if_eq (tgt := 147) hx hb dX8_command_129 (by decide) (fun c_129 => ?_) (fun c_129 => ?_)
      · have c_129 := (bI_eq0.mp c_129)
        have c_129 : ¬ (1 ≤ re ∧ re ≤ 99) := fun h8 => by rw [decide_eq_true h8.1, decide_eq_true h8.2] at c_129; exact absurd c_129 (by decide)
        refine lv_iconst (v := (nI 0)) hx hb dX8_command_147 (by decide) ?_
        have heB : scB (100000 * kd + re) σ = false := hsB.trans (by rcases (show re / 10000 ≠ 0 ∨ re / 100 % 100 ≠ 0 ∨ re % 100 = 0 by omega) with h1 | h1 | h1 <;> simp [h1, ho_0])
        exact wr_z (b := (scB (100000 * kd + re) σ)) (σ, wy, hp) (by rw [heB]; rfl) rfl (fun h8 => absurd h8 (by rw [heB]; exact Bool.false_ne_true)) hP hS hx hb hr dX8_command_148 hlk
      · have c_129 := (bI_ne0.mp c_129)
        have c_129 : 1 ≤ re ∧ re ≤ 99 := by simp only [Bool.and_eq_true, decide_eq_true_eq] at c_129; exact c_129
        have hoa := hoA_lt hwf c_129.2
        have hmq := ho_e hwf c_129.1 c_129.2
        have e3 : re % 100 = re := by omega
        refine lv_aload_n hx hb dX8_command_132 rfl (lv_at hl 9 rfl) ?_
        refine va_get (D := g) (ci := 6) (v := .ref (ma 3)) (C := RX8) (T := TX8) (N := 13) hx hb hts bgX8 hown hK hP 0 rfl rfl 4 (by decide) (hts _ wd5_22) (fun _ h9 => h9) rfl dX8_command_133 ?_
        refine lv_iload_n hx hb dX8_command_136 rfl (lv_at hl 11 rfl) ?_
        refine wr_call (wc := [aI cy (ma 3) 248 (mS σ)]) (va_runS (As := [.ref (ma 3), .int (nI re)]) (rest := []) ⟨hx, hb, hml, hown, hts⟩ (c_X8_hoursOn l g cy (ma 3) s.heap.size σ bd re hwf (by omega)) ⟨(cB 2 hts wd15_15 wd1_5 wd15_13 rfl rfl (by decide +kernel) ⟨Nat.le_of_ble_eq_true rfl, Nat.le_of_ble_eq_true rfl⟩), hts _ wd15_14⟩ (ps hK hP hD hS hA hX [3] rfl rfl) rfl rfl hl.1 rfl (lv_room (Nat.le_of_ble_eq_true rfl)) dX8_command_137 ⟨Nat.zero_le _, Nat.zero_le _⟩) hP hD hS hA [3] rfl rfl (fun _ => (rfl : ([ma 3] : List Nat) = [ma 3])) ?_
        rintro _u9 H locs - hP hD hS
        have hP : va_P g vwCl [(ma 0, .inr (6, [.int (nI rf), .ref (ma 1), .int (nI ln), .ref (ma 2), .ref (ma 3), .ref (ma 4), .int (nI n), .ref (ma 5), .ref (ma 6), .ref (ma 7), .ref (ma 8), .int (nI sp), .int (nI ou)])), aI cy (ma 1) 120 (mS tx), aI cy (ma 2) 248 (mS no), aI cy (ma 3) 248 (mS (hoS σ re)), aI cy (ma 4) 3472 (mS dy), aI cy (ma 5) 496 (mS kp), aZ cy (ma 6) 2 (fun j => bI (fl j)), aI cy (ma 7) 144 (mS wy), aI cy (ma 8) 8 (mS hp)] H := hP
        have hD : va_D A [(ma 0, .inr (6, [.int (nI rf), .ref (ma 1), .int (nI ln), .ref (ma 2), .ref (ma 3), .ref (ma 4), .int (nI n), .ref (ma 5), .ref (ma 6), .ref (ma 7), .ref (ma 8), .int (nI sp), .int (nI ou)])), aI cy (ma 1) 120 (mS tx), aI cy (ma 2) 248 (mS no), aI cy (ma 3) 248 (mS (hoS σ re)), aI cy (ma 4) 3472 (mS dy), aI cy (ma 5) 496 (mS kp), aZ cy (ma 6) 2 (fun j => bI (fl j)), aI cy (ma 7) 144 (mS wy), aI cy (ma 8) 8 (mS hp)] := hD
        show W _ _ _ _ _ _ _ _ _ _ _ _ _ _ _ (F0 mX 140 ls [.int (nI (sm (gro σ re) (σ 0)))])
        refine lv_if_lt (tgt := 147) hx hb dX8_command_140 (by decide) (fun c_140 => ?_) (fun c_140 => ?_)
        · exact absurd c_140 (nI_pos (by omega))
        · skip
          refine lv_iconst (v := (nI 1)) hx hb dX8_command_143 (by decide) ?_
          refine lv_goto (tgt := 148) hx hb dX8_command_144 (by decide) ?_
          have heB : scB (100000 * kd + re) σ = true := hsB.trans (by rw [e3, decide_eq_true (show re / 10000 = 0 by omega), decide_eq_true (show re / 100 % 100 = 0 by omega), decide_eq_false hmq.2]; rfl)
          have heS : scS (100000 * kd + re) σ = hoS σ re := hsS.trans (by rw [e3, if_pos (by omega), hmq.1])
          exact wr_z (b := (scB (100000 * kd + re) σ)) ((hoS σ re), wy, hp) (by rw [heB]; rfl) rfl (fun _ => heS.symm) hP hS hx hb hr dX8_command_148 hlk
    · have c_70 : (nI kd) = nI 2 := c_70
      refine lv_tableIn (tgt := 149) (off := 79) hx hb dX8_command_70 (by rw [c_70]; decide) (by rw [c_70]; decide) (by rw [c_70]; decide) (by decide) ?_
      have c_70 : kd = 2 := nc_eq (by omega) (by decide) c_70
      have hsB : scB (100000 * kd + re) σ = (decide (re / 10 % 10 < 8) && (decide (re % 10 = 0) && !decide (nI (sightA σ (nI (re / 10000)) (nI (re / 100 % 100)) (nI (2 ^ (re / 10 % 10))) (nI 0)) < 0))) := by rw [c_70]; exact (sc_m hre).1
      have hsS : scS (100000 * kd + re) σ = (if re / 10 % 10 < 8 ∧ re % 10 = 0 then sightR σ (nI (re / 10000)) (nI (re / 100 % 100)) (nI (2 ^ (re / 10 % 10))) (nI 0) false else σ) := by rw [c_70]; exact (sc_m hre).2
      refine lv_iload hx hb dX8_command_149 (lv_at hl 2 rfl) ?_
      refine lv_if_ne (tgt := 211) hx hb dX8_command_151 (by decide) (fun c_151 => ?_) (fun c_151 => ?_)
      · have c_151 := (nz_ne c_151 (by omega))
        refine lv_iconst (v := (nI 0)) hx hb dX8_command_211 (by decide) ?_
        have heB : scB (100000 * kd + re) σ = false := hsB.trans (by simp [c_151])
        exact wr_z (b := (scB (100000 * kd + re) σ)) (σ, wy, hp) (by rw [heB]; rfl) rfl (fun h8 => absurd h8 (by rw [heB]; exact Bool.false_ne_true)) hP hS hx hb hr dX8_command_212 hlk
      · have c_151 := (nz_eq c_151 (by omega))
        refine lv_iload hx hb dX8_command_154 (lv_at hl 3 rfl) ?_
        refine lv_bipush (v := (nI 8)) hx hb dX8_command_156 (by decide) ?_
        refine lv_icmp_ge (tgt := 211) hx hb dX8_command_158 (by decide) (fun c_158 => ?_) (fun c_158 => ?_)
        · have c_158 := (nc_le (by omega) (by omega) c_158)
          refine lv_iconst (v := (nI 0)) hx hb dX8_command_211 (by decide) ?_
          have heB : scB (100000 * kd + re) σ = false := hsB.trans (by simp [Nat.not_lt.mpr c_158])
          exact wr_z (b := (scB (100000 * kd + re) σ)) (σ, wy, hp) (by rw [heB]; rfl) rfl (fun h8 => absurd h8 (by rw [heB]; exact Bool.false_ne_true)) hP hS hx hb hr dX8_command_212 hlk
        · have c_158 := (nc_nle (by omega) (by omega) c_158)
          refine lv_iload_n hx hb dX8_command_161 rfl (lv_at hl 8 rfl) ?_
          refine rd_call (va_runS (As := [.int (nI (re / 10000))]) (rest := []) ⟨hx, hb, hml, hown, hts⟩ (c_X8_isFinder l (nI (re / 10000)) ) ⟨(cB 1 hts wd27_3 wd1_5 wd27_1 rfl rfl (by decide +kernel) ⟨Nat.le_of_ble_eq_true rfl, Nat.le_of_ble_eq_true rfl⟩), hts _ wd27_2⟩ p0 rfl rfl hl.1 rfl (lv_room (Nat.le_of_ble_eq_true rfl)) dX8_command_162 ⟨Nat.zero_le _, Nat.zero_le _⟩) ?_
          show W _ _ _ _ _ _ _ _ _ _ _ _ _ _ _ (F0 mX 165 ls [.int (bI (inR (nI (re / 10000)) (nI 0) (nI 7)))])
          refine ti (show (bI (inR (nI (re / 10000)) (nI 0) (nI 7))) = (bI (decide (re / 10000 ≤ 7))) from (congrArg bI (in_k (by omega) (by decide)))) ?_
          refine lv_if_eq (tgt := 211) hx hb dX8_command_165 (by decide) (fun c_165 => ?_) (fun c_165 => ?_)
          · have c_165 := (bI_eq0.mp c_165)
            have c_165 : ¬ re / 10000 ≤ 7 := of_decide_eq_false c_165
            refine lv_iconst (v := (nI 0)) hx hb dX8_command_211 (by decide) ?_
            have heB : scB (100000 * kd + re) σ = false := hsB.trans (by rw [lt_nn2 (sA_no (tl_no (by omega) (by omega) (Or.inl c_165)))]; simp)
            exact wr_z (b := (scB (100000 * kd + re) σ)) (σ, wy, hp) (by rw [heB]; rfl) rfl (fun h8 => absurd h8 (by rw [heB]; exact Bool.false_ne_true)) hP hS hx hb hr dX8_command_212 hlk
          · have c_165 := (bI_ne0.mp c_165)
            have c_165 : re / 10000 ≤ 7 := of_decide_eq_true c_165
            refine lv_iload hx hb dX8_command_168 (lv_at hl 5 rfl) ?_
            refine rd_call (va_runS (As := [.int (nI ((re / 100) % 100))]) (rest := []) ⟨hx, hb, hml, hown, hts⟩ (c_X8_isCorner l (nI ((re / 100) % 100)) ) ⟨(cB 1 hts wd28_15 wd1_5 wd28_13 rfl rfl (by decide +kernel) ⟨Nat.le_of_ble_eq_true rfl, Nat.le_of_ble_eq_true rfl⟩), hts _ wd28_14⟩ p0 rfl rfl hl.1 rfl (lv_room (Nat.le_of_ble_eq_true rfl)) dX8_command_170 ⟨Nat.zero_le _, Nat.zero_le _⟩) ?_
            show W _ _ _ _ _ _ _ _ _ _ _ _ _ _ _ (F0 mX 173 ls [.int (bI (inR (nI ((re / 100) % 100)) (nI 0) (nI 11)))])
            refine ti (show (bI (inR (nI ((re / 100) % 100)) (nI 0) (nI 11))) = (bI (decide (re / 100 % 100 ≤ 11))) from (congrArg bI (in_k (by omega) (by decide)))) ?_
            refine lv_if_eq (tgt := 211) hx hb dX8_command_173 (by decide) (fun c_173 => ?_) (fun c_173 => ?_)
            · have c_173 := (bI_eq0.mp c_173)
              have c_173 : ¬ re / 100 % 100 ≤ 11 := of_decide_eq_false c_173
              refine lv_iconst (v := (nI 0)) hx hb dX8_command_211 (by decide) ?_
              have heB : scB (100000 * kd + re) σ = false := hsB.trans (by rw [lt_nn2 (sA_no (tl_no (by omega) (by omega) (Or.inr c_173)))]; simp)
              exact wr_z (b := (scB (100000 * kd + re) σ)) (σ, wy, hp) (by rw [heB]; rfl) rfl (fun h8 => absurd h8 (by rw [heB]; exact Bool.false_ne_true)) hP hS hx hb hr dX8_command_212 hlk
            · have c_173 := (bI_ne0.mp c_173)
              have c_173 : re / 100 % 100 ≤ 11 := of_decide_eq_true c_173
              have hp2 := p2_lt (k := re / 10 % 10) (by omega)
              have hmq := tl_sight (σ := σ) (a := re / 10000) (b := re / 100 % 100) (c := 2 ^ (re / 10 % 10)) (g := 0) (ph := false) hn0 hh2 (by omega) (by omega) (by omega) (by omega)
              refine lv_aload_n hx hb dX8_command_176 rfl (lv_at hl 9 rfl) ?_
              refine va_get (D := g) (ci := 6) (v := .ref (ma 3)) (C := RX8) (T := TX8) (N := 13) hx hb hts bgX8 hown hK hP 0 rfl rfl 4 (by decide) (hts _ wd5_22) (fun _ h9 => h9) rfl dX8_command_177 ?_
              refine lv_iconst (v := (nI 1)) hx hb dX8_command_180 (by decide) ?_
              refine va_iald hx hb hK hP 3 0 rfl rfl (vp_in_nI (n := 1) (by omega) (by omega)) dX8_command_181 ?_
              refine ti (show (mS σ) (nI 1).toNatClampNeg = nI (σ 1) from by rw [nI_clamp (by omega)]; rfl) ?_
              refine lv_bipush (v := (nI 20)) hx hb dX8_command_182 (by decide) ?_
              refine lv_icmp_ge (tgt := 211) hx hb dX8_command_184 (by decide) (fun c_184 => ?_) (fun c_184 => ?_)
              · have c_184 := (nc_le (by omega) (by omega) c_184)
                refine lv_iconst (v := (nI 0)) hx hb dX8_command_211 (by decide) ?_
                have heB : scB (100000 * kd + re) σ = false := hsB.trans (by rw [lt_nn2 (sA_no (hmq.2 (Or.inl c_184)))]; simp)
                exact wr_z (b := (scB (100000 * kd + re) σ)) (σ, wy, hp) (by rw [heB]; rfl) rfl (fun h8 => absurd h8 (by rw [heB]; exact Bool.false_ne_true)) hP hS hx hb hr dX8_command_212 hlk
              · have c_184 := (nc_nle (by omega) (by omega) c_184)
                have hme9 : mea σ (2 ^ (re / 10 % 10)) (σ 2 - 0) < 2 ^ 32 := mea_32 hn0
                have hs9 := sightR_0 (ph := false) (by omega) (by omega) (by omega) (by omega) (hmq.1 c_184 (Nat.zero_le _))
                refine lv_aload_n hx hb dX8_command_187 rfl (lv_at hl 9 rfl) ?_
                refine va_get (D := g) (ci := 6) (v := .ref (ma 3)) (C := RX8) (T := TX8) (N := 13) hx hb hts bgX8 hown hK hP 0 rfl rfl 4 (by decide) (hts _ wd5_22) (fun _ h9 => h9) rfl dX8_command_188 ?_
                refine lv_iload_n hx hb dX8_command_191 rfl (lv_at hl 8 rfl) ?_
                refine lv_iload hx hb dX8_command_192 (lv_at hl 5 rfl) ?_
                refine lv_iconst (v := (nI 1)) hx hb dX8_command_194 (by decide) ?_
                refine lv_iload hx hb dX8_command_195 (lv_at hl 3 rfl) ?_
                refine lv_ishl hx hb dX8_command_197 ?_
                refine ti (nb_shl (k := ((re / 10) % 10)) (by omega)) ?_
                refine lv_iconst (v := (nI 0)) hx hb dX8_command_198 (by decide) ?_
                refine lv_iconst (v := (nI 0)) hx hb dX8_command_199 (by decide) ?_
                refine ti (show (nI 0) = (bI false) from rfl) ?_
                refine wr_call (wc := [aI cy (ma 3) 248 (mS σ)]) (va_runS (As := [.ref (ma 3), .int (nI (re / 10000)), .int (nI ((re / 100) % 100)), .int (nI (2 ^ ((re / 10) % 10))), .int (nI 0), .int (bI false)]) (rest := []) ⟨hx, hb, hml, hown, hts⟩ (c_X8_sightOn l g cy (ma 3) s.heap.size σ bd (re / 10000) ((re / 100) % 100) (2 ^ ((re / 10) % 10)) 0 false hwf (by omega) (by omega) (by omega)) ⟨(cB 6 hts wd12_14 wd1_5 wd12_12 rfl rfl (by decide +kernel) ⟨Nat.le_of_ble_eq_true rfl, Nat.le_of_ble_eq_true rfl⟩), hts _ wd12_13⟩ (ps hK hP hD hS hA hX [3] rfl rfl) rfl rfl hl.1 rfl (lv_room (Nat.le_of_ble_eq_true rfl)) dX8_command_200 ⟨Nat.zero_le _, Nat.zero_le _⟩) hP hD hS hA [3] rfl rfl (fun _ => (rfl : ([ma 3] : List Nat) = [ma 3])) ?_
                rintro _u9 H locs - hP hD hS
                have hP : va_P g vwCl [(ma 0, .inr (6, [.int (nI rf), .ref (ma 1), .int (nI ln), .ref (ma 2), .ref (ma 3), .ref (ma 4), .int (nI n), .ref (ma 5), .ref (ma 6), .ref (ma 7), .ref (ma 8), .int (nI sp), .int (nI ou)])), aI cy (ma 1) 120 (mS tx), aI cy (ma 2) 248 (mS no), aI cy (ma 3) 248 (mS (sightS σ (re / 10000) ((re / 100) % 100) (2 ^ ((re / 10) % 10)) 0 (if false then 1 else 0))), aI cy (ma 4) 3472 (mS dy), aI cy (ma 5) 496 (mS kp), aZ cy (ma 6) 2 (fun j => bI (fl j)), aI cy (ma 7) 144 (mS wy), aI cy (ma 8) 8 (mS hp)] H := hP
                have hD : va_D A [(ma 0, .inr (6, [.int (nI rf), .ref (ma 1), .int (nI ln), .ref (ma 2), .ref (ma 3), .ref (ma 4), .int (nI n), .ref (ma 5), .ref (ma 6), .ref (ma 7), .ref (ma 8), .int (nI sp), .int (nI ou)])), aI cy (ma 1) 120 (mS tx), aI cy (ma 2) 248 (mS no), aI cy (ma 3) 248 (mS (sightS σ (re / 10000) ((re / 100) % 100) (2 ^ ((re / 10) % 10)) 0 (if false then 1 else 0))), aI cy (ma 4) 3472 (mS dy), aI cy (ma 5) 496 (mS kp), aZ cy (ma 6) 2 (fun j => bI (fl j)), aI cy (ma 7) 144 (mS wy), aI cy (ma 8) 8 (mS hp)] := hD
                show W _ _ _ _ _ _ _ _ _ _ _ _ _ _ _ (F0 mX 203 ls [.int (nI (mea σ (2 ^ ((re / 10) % 10)) (σ 2 - 0)))])
                refine lv_iconst (v := (nI NN)) hx hb dX8_command_203 (by decide) ?_
                refine lv_icmp_eq (tgt := 211) hx hb dX8_command_204 (by decide) (fun c_204 => ?_) (fun c_204 => ?_)
                · have c_204 := (nc_eq9 (by omega) (by decide) c_204)
                  refine lv_iconst (v := (nI 0)) hx hb dX8_command_211 (by decide) ?_
                  have heB : scB (100000 * kd + re) σ = false := hsB.trans (by rw [hs9.2, lt_nn (congrArg nI c_204)]; simp)
                  exact wr_z (b := (scB (100000 * kd + re) σ)) ((sightS σ (re / 10000) ((re / 100) % 100) (2 ^ ((re / 10) % 10)) 0 (if false then 1 else 0)), wy, hp) (by rw [heB]; rfl) rfl (fun h8 => absurd h8 (by rw [heB]; exact Bool.false_ne_true)) hP hS hx hb hr dX8_command_212 hlk
                · have c_204 := (nc_ne9 (by omega) (by decide) c_204)
                  refine lv_iconst (v := (nI 1)) hx hb dX8_command_207 (by decide) ?_
                  refine lv_goto (tgt := 212) hx hb dX8_command_208 (by decide) ?_
                  have heB : scB (100000 * kd + re) σ = true := hsB.trans (by rw [decide_eq_true (show re / 10 % 10 < 8 by omega), decide_eq_true (show re % 10 = 0 by omega), hs9.2, decide_eq_false (mea_nn hn0 c_204)]; rfl)
                  have heS : scS (100000 * kd + re) σ = sightS σ (re / 10000) ((re / 100) % 100) (2 ^ ((re / 10) % 10)) 0 (if false then 1 else 0) := hsS.trans (by rw [if_pos (by omega), hs9.1])
                  exact wr_z (b := (scB (100000 * kd + re) σ)) ((sightS σ (re / 10000) ((re / 100) % 100) (2 ^ ((re / 10) % 10)) 0 (if false then 1 else 0)), wy, hp) (by rw [heB]; rfl) rfl (fun _ => heS.symm) hP hS hx hb hr dX8_command_212 hlk
    · have c_70 : (nI kd) = nI 3 := c_70
      refine lv_tableIn (tgt := 213) (off := 143) hx hb dX8_command_70 (by rw [c_70]; decide) (by rw [c_70]; decide) (by rw [c_70]; decide) (by decide) ?_
      have c_70 : kd = 3 := nc_eq (by omega) (by decide) c_70
      have hsB : scB (100000 * kd + re) σ = (decide (re % 10 = 0) && !decide (nI (findA σ (nI (re / 10000)) (nI (re / 1000 % 10)) (nI (re / 10 % 100))) = nI NN2)) := by rw [c_70]; exact (sc_m hre).1
      have hsS : scS (100000 * kd + re) σ = (if re % 10 = 0 then findR σ (nI (re / 10000)) (nI (re / 1000 % 10)) (nI (re / 10 % 100)) else σ) := by rw [c_70]; exact (sc_m hre).2
      refine lv_iload hx hb dX8_command_213 (lv_at hl 2 rfl) ?_
      refine lv_if_ne (tgt := 276) hx hb dX8_command_215 (by decide) (fun c_215 => ?_) (fun c_215 => ?_)
      · have c_215 := (nz_ne c_215 (by omega))
        refine lv_iconst (v := (nI 0)) hx hb dX8_command_276 (by decide) ?_
        have heB : scB (100000 * kd + re) σ = false := hsB.trans (by simp [c_215])
        exact wr_z (b := (scB (100000 * kd + re) σ)) (σ, wy, hp) (by rw [heB]; rfl) rfl (fun h8 => absurd h8 (by rw [heB]; exact Bool.false_ne_true)) hP hS hx hb hr dX8_command_277 hlk
      · have c_215 := (nz_eq c_215 (by omega))
        refine lv_aload_n hx hb dX8_command_218 rfl (lv_at hl 9 rfl) ?_
        refine va_get (D := g) (ci := 6) (v := .ref (ma 3)) (C := RX8) (T := TX8) (N := 13) hx hb hts bgX8 hown hK hP 0 rfl rfl 4 (by decide) (hts _ wd5_22) (fun _ h9 => h9) rfl dX8_command_219 ?_
        refine lv_iload_n hx hb dX8_command_222 rfl (lv_at hl 8 rfl) ?_
        refine rd_call (va_runS (As := [.ref (ma 3), .int (nI (re / 10000))]) (rest := []) ⟨hx, hb, hml, hown, hts⟩ (c_X8_isDog l g cy (ma 3) s.heap.size σ (nI (re / 10000)) (by omega)) ⟨(cB 2 hts wd13_12 wd1_5 wd13_10 rfl rfl (by decide +kernel) ⟨Nat.le_of_ble_eq_true rfl, Nat.le_of_ble_eq_true rfl⟩), hts _ wd13_11⟩ (ps hK hP hD hS hA hX [3] rfl rfl) rfl rfl hl.1 rfl (lv_room (Nat.le_of_ble_eq_true rfl)) dX8_command_223 ⟨Nat.zero_le _, Nat.zero_le _⟩) ?_
        show W _ _ _ _ _ _ _ _ _ _ _ _ _ _ _ (F0 mX 226 ls [.int (bI (hasR (σ 0) (nI (re / 10000))))])
        refine ti (show (bI (hasR (σ 0) (nI (re / 10000)))) = (bI (decide (re / 10000 < σ 0))) from (congrArg bI (hasR_n (by omega) (by omega)))) ?_
        refine lv_if_eq (tgt := 276) hx hb dX8_command_226 (by decide) (fun c_226 => ?_) (fun c_226 => ?_)
        · have c_226 := (bI_eq0.mp c_226)
          have c_226 : ¬ re / 10000 < σ 0 := of_decide_eq_false c_226
          refine lv_iconst (v := (nI 0)) hx hb dX8_command_276 (by decide) ?_
          have heB : scB (100000 * kd + re) σ = false := hsB.trans (by rw [decide_eq_true (fi_no hn0 (by omega) (by omega) (by omega) (Or.inl c_226))]; simp)
          exact wr_z (b := (scB (100000 * kd + re) σ)) (σ, wy, hp) (by rw [heB]; rfl) rfl (fun h8 => absurd h8 (by rw [heB]; exact Bool.false_ne_true)) hP hS hx hb hr dX8_command_277 hlk
        · have c_226 := (bI_ne0.mp c_226)
          have c_226 : re / 10000 < σ 0 := of_decide_eq_true c_226
          refine lv_iload hx hb dX8_command_229 (lv_at hl 7 rfl) ?_
          refine rd_call (va_runS (As := [.int (nI ((re / 1000) % 10))]) (rest := []) ⟨hx, hb, hml, hown, hts⟩ (c_X8_isFinder l (nI ((re / 1000) % 10)) ) ⟨(cB 1 hts wd27_3 wd1_5 wd27_1 rfl rfl (by decide +kernel) ⟨Nat.le_of_ble_eq_true rfl, Nat.le_of_ble_eq_true rfl⟩), hts _ wd27_2⟩ p0 rfl rfl hl.1 rfl (lv_room (Nat.le_of_ble_eq_true rfl)) dX8_command_231 ⟨Nat.zero_le _, Nat.zero_le _⟩) ?_
          show W _ _ _ _ _ _ _ _ _ _ _ _ _ _ _ (F0 mX 234 ls [.int (bI (inR (nI ((re / 1000) % 10)) (nI 0) (nI 7)))])
          refine ti (show (bI (inR (nI ((re / 1000) % 10)) (nI 0) (nI 7))) = (bI (decide (re / 1000 % 10 ≤ 7))) from (congrArg bI (in_k (by omega) (by decide)))) ?_
          refine lv_if_eq (tgt := 276) hx hb dX8_command_234 (by decide) (fun c_234 => ?_) (fun c_234 => ?_)
          · have c_234 := (bI_eq0.mp c_234)
            have c_234 : ¬ re / 1000 % 10 ≤ 7 := of_decide_eq_false c_234
            refine lv_iconst (v := (nI 0)) hx hb dX8_command_276 (by decide) ?_
            have heB : scB (100000 * kd + re) σ = false := hsB.trans (by rw [decide_eq_true (fi_no hn0 (by omega) (by omega) (by omega) (Or.inr (Or.inl c_234)))]; simp)
            exact wr_z (b := (scB (100000 * kd + re) σ)) (σ, wy, hp) (by rw [heB]; rfl) rfl (fun h8 => absurd h8 (by rw [heB]; exact Bool.false_ne_true)) hP hS hx hb hr dX8_command_277 hlk
          · have c_234 := (bI_ne0.mp c_234)
            have c_234 : re / 1000 % 10 ≤ 7 := of_decide_eq_true c_234
            refine lv_iload hx hb dX8_command_237 (lv_at hl 4 rfl) ?_
            refine rd_call (va_runS (As := [.int (nI ((re / 10) % 100))]) (rest := []) ⟨hx, hb, hml, hown, hts⟩ (c_X8_isCorner l (nI ((re / 10) % 100)) ) ⟨(cB 1 hts wd28_15 wd1_5 wd28_13 rfl rfl (by decide +kernel) ⟨Nat.le_of_ble_eq_true rfl, Nat.le_of_ble_eq_true rfl⟩), hts _ wd28_14⟩ p0 rfl rfl hl.1 rfl (lv_room (Nat.le_of_ble_eq_true rfl)) dX8_command_239 ⟨Nat.zero_le _, Nat.zero_le _⟩) ?_
            show W _ _ _ _ _ _ _ _ _ _ _ _ _ _ _ (F0 mX 242 ls [.int (bI (inR (nI ((re / 10) % 100)) (nI 0) (nI 11)))])
            refine ti (show (bI (inR (nI ((re / 10) % 100)) (nI 0) (nI 11))) = (bI (decide (re / 10 % 100 ≤ 11))) from (congrArg bI (in_k (by omega) (by decide)))) ?_
            refine lv_if_eq (tgt := 276) hx hb dX8_command_242 (by decide) (fun c_242 => ?_) (fun c_242 => ?_)
            · have c_242 := (bI_eq0.mp c_242)
              have c_242 : ¬ re / 10 % 100 ≤ 11 := of_decide_eq_false c_242
              refine lv_iconst (v := (nI 0)) hx hb dX8_command_276 (by decide) ?_
              have heB : scB (100000 * kd + re) σ = false := hsB.trans (by rw [decide_eq_true (fi_no hn0 (by omega) (by omega) (by omega) (Or.inr (Or.inr (Or.inl c_242))))]; simp)
              exact wr_z (b := (scB (100000 * kd + re) σ)) (σ, wy, hp) (by rw [heB]; rfl) rfl (fun h8 => absurd h8 (by rw [heB]; exact Bool.false_ne_true)) hP hS hx hb hr dX8_command_277 hlk
            · have c_242 := (bI_ne0.mp c_242)
              have c_242 : re / 10 % 100 ≤ 11 := of_decide_eq_true c_242
              have hdb := hwf.db (show re / 10000 < σ 0 by omega)
              refine lv_aload_n hx hb dX8_command_245 rfl (lv_at hl 9 rfl) ?_
              refine va_get (D := g) (ci := 6) (v := .ref (ma 3)) (C := RX8) (T := TX8) (N := 13) hx hb hts bgX8 hown hK hP 0 rfl rfl 4 (by decide) (hts _ wd5_22) (fun _ h9 => h9) rfl dX8_command_246 ?_
              refine lv_iload_n hx hb dX8_command_249 rfl (lv_at hl 8 rfl) ?_
              refine rd_call (va_runS (As := [.ref (ma 3), .int (nI (re / 10000))]) (rest := []) ⟨hx, hb, hml, hown, hts⟩ (c_X8_isMissing l g cy (ma 3) s.heap.size σ (re / 10000) (by omega) (by omega)) ⟨(cB 2 hts wd12_20 wd1_5 wd12_18 rfl rfl (by decide +kernel) ⟨Nat.le_of_ble_eq_true rfl, Nat.le_of_ble_eq_true rfl⟩), hts _ wd12_19⟩ (ps hK hP hD hS hA hX [3] rfl rfl) rfl rfl hl.1 rfl (lv_room (Nat.le_of_ble_eq_true rfl)) dX8_command_250 ⟨Nat.zero_le _, Nat.zero_le _⟩) ?_
              show W _ _ _ _ _ _ _ _ _ _ _ _ _ _ _ (F0 mX 253 ls [.int (bI (msg σ (re / 10000)))])
              refine lv_if_eq (tgt := 276) hx hb dX8_command_253 (by decide) (fun c_253 => ?_) (fun c_253 => ?_)
              · have c_253 := (bI_eq0.mp c_253)
                refine lv_iconst (v := (nI 0)) hx hb dX8_command_276 (by decide) ?_
                have heB : scB (100000 * kd + re) σ = false := hsB.trans (by rw [decide_eq_true (fi_no hn0 (by omega) (by omega) (by omega) (Or.inr (Or.inr (Or.inr c_253))))]; simp)
                exact wr_z (b := (scB (100000 * kd + re) σ)) (σ, wy, hp) (by rw [heB]; rfl) rfl (fun h8 => absurd h8 (by rw [heB]; exact Bool.false_ne_true)) hP hS hx hb hr dX8_command_277 hlk
              · have c_253 := (bI_ne0.mp c_253)
                have hmq := ml_find (a := re / 10000) (b := re / 1000 % 10) (c := re / 10 % 100) hwf (by omega) (by omega) (by omega)
                rw [fi_e.1, fi_e.2] at hmq
                have hmy := hmq.1 c_226 c_253
                have hq9 := shr_le (d := re / 10000) (c := re / 10 % 100) (k := re / 1000 % 10 + 1) hwf (show re / 1000 % 10 < 8 by omega) (by omega)
                have hq8 : sm (shr σ (re / 10000) (re / 1000 % 10) (re / 10 % 100)) (re / 1000 % 10 + 1) = sm (shr σ (re / 10000) (re / 1000 % 10) (re / 10 % 100)) (re / 1000 % 10) + shr σ (re / 10000) (re / 1000 % 10) (re / 10 % 100) (re / 1000 % 10) := rfl
                refine lv_aload_n hx hb dX8_command_256 rfl (lv_at hl 9 rfl) ?_
                refine lv_aload_n hx hb dX8_command_257 rfl (lv_at hl 9 rfl) ?_
                refine va_get (D := g) (ci := 6) (v := .ref (ma 3)) (C := RX8) (T := TX8) (N := 13) hx hb hts bgX8 hown hK hP 0 rfl rfl 4 (by decide) (hts _ wd5_22) (fun _ h9 => h9) rfl dX8_command_258 ?_
                refine lv_iload_n hx hb dX8_command_261 rfl (lv_at hl 8 rfl) ?_
                refine lv_iload hx hb dX8_command_262 (lv_at hl 7 rfl) ?_
                refine lv_iload hx hb dX8_command_264 (lv_at hl 4 rfl) ?_
                refine wr_call (wc := [(ma 0, .inr (6, [.int (nI rf), .ref (ma 1), .int (nI ln), .ref (ma 2), .ref (ma 3), .ref (ma 4), .int (nI n), .ref (ma 5), .ref (ma 6), .ref (ma 7), .ref (ma 8), .int (nI sp), .int (nI ou)])), aI cy (ma 7) 144 (mS wy), aI cy (ma 8) 8 (mS hp), aI cy (ma 3) 248 (mS σ)]) (va_runV (As := [.ref (ma 3), .int (nI (re / 10000)), .int (nI ((re / 1000) % 10)), .int (nI ((re / 10) % 100))]) (rest := []) ⟨hx, hb, hml, hown, hts⟩ (c_X8_findOn l g cy (ma 0) (ma 1) (ma 2) (ma 3) (ma 4) (ma 5) (ma 6) (ma 7) (ma 8) (ma 3) s.heap.size rf ln n sp ou wy σ bd hp (re / 10000) ((re / 1000) % 10) ((re / 10) % 100) hwf (by omega) (by omega) (by omega) (by omega)) ⟨(cB 4 hts wd13_16 wd1_5 wd13_13 rfl rfl (by decide +kernel) ⟨Nat.le_of_ble_eq_true rfl, Nat.le_of_ble_eq_true rfl⟩), hts _ wd13_14, hts _ wd13_15⟩ (pv hK hP hD hS hA hX [0, 7, 8, 3] rfl rfl 6 0 rfl rfl) rfl rfl hl.1 rfl (lv_room (Nat.le_of_ble_eq_true rfl)) dX8_command_266 ⟨Nat.zero_le _, Nat.zero_le _⟩) hP hD hS hA [0, 7, 8, 3] rfl rfl (fun _ => (rfl : ([ma 0, ma 7, ma 8, ma 3] : List Nat) = [ma 0, ma 7, ma 8, ma 3])) ?_
                rintro _u9 H locs - hP hD hS
                have hP : va_P g vwCl [(ma 0, .inr (6, [.int (nI rf), .ref (ma 1), .int (nI ln), .ref (ma 2), .ref (ma 3), .ref (ma 4), .int (nI n), .ref (ma 5), .ref (ma 6), .ref (ma 7), .ref (ma 8), .int (nI sp), .int (nI ou)])), aI cy (ma 1) 120 (mS tx), aI cy (ma 2) 248 (mS no), aI cy (ma 3) 248 (mS (findS σ (re / 10000) ((re / 1000) % 10) ((re / 10) % 100))), aI cy (ma 4) 3472 (mS dy), aI cy (ma 5) 496 (mS kp), aZ cy (ma 6) 2 (fun j => bI (fl j)), aI cy (ma 7) 144 (mS (D σ)), aI cy (ma 8) 8 (mS (hOf σ (re / 10000) ((re / 1000) % 10) ((re / 10) % 100)))] H := hP
                have hD : va_D A [(ma 0, .inr (6, [.int (nI rf), .ref (ma 1), .int (nI ln), .ref (ma 2), .ref (ma 3), .ref (ma 4), .int (nI n), .ref (ma 5), .ref (ma 6), .ref (ma 7), .ref (ma 8), .int (nI sp), .int (nI ou)])), aI cy (ma 1) 120 (mS tx), aI cy (ma 2) 248 (mS no), aI cy (ma 3) 248 (mS (findS σ (re / 10000) ((re / 1000) % 10) ((re / 10) % 100))), aI cy (ma 4) 3472 (mS dy), aI cy (ma 5) 496 (mS kp), aZ cy (ma 6) 2 (fun j => bI (fl j)), aI cy (ma 7) 144 (mS (D σ)), aI cy (ma 8) 8 (mS (hOf σ (re / 10000) ((re / 1000) % 10) ((re / 10) % 100)))] := hD
                show W _ _ _ _ _ _ _ _ _ _ _ _ _ _ _ (F0 mX 269 ls [.int (nI (shr σ (re / 10000) ((re / 1000) % 10) ((re / 10) % 100) ((re / 1000) % 10)))])
                refine lv_if_lt (tgt := 276) hx hb dX8_command_269 (by decide) (fun c_269 => ?_) (fun c_269 => ?_)
                · exact absurd c_269 (nI_pos (by omega))
                · skip
                  refine lv_iconst (v := (nI 1)) hx hb dX8_command_272 (by decide) ?_
                  refine lv_goto (tgt := 277) hx hb dX8_command_273 (by decide) ?_
                  have heB : scB (100000 * kd + re) σ = true := hsB.trans (by rw [decide_eq_true (show re % 10 = 0 by omega), decide_eq_false hmy.2]; rfl)
                  have heS : scS (100000 * kd + re) σ = findS σ (re / 10000) ((re / 1000) % 10) ((re / 10) % 100) := hsS.trans (by rw [if_pos (by omega), hmy.1])
                  exact wr_z (b := (scB (100000 * kd + re) σ)) ((findS σ (re / 10000) ((re / 1000) % 10) ((re / 10) % 100)), (D σ), (hOf σ (re / 10000) ((re / 1000) % 10) ((re / 10) % 100))) (by rw [heB]; rfl) rfl (fun _ => heS.symm) hP hS hx hb hr dX8_command_277 hlk
    · have c_70 : (nI kd) = nI 4 := c_70
      refine lv_tableIn (tgt := 278) (off := 208) hx hb dX8_command_70 (by rw [c_70]; decide) (by rw [c_70]; decide) (by rw [c_70]; decide) (by decide) ?_
      have c_70 : kd = 4 := nc_eq (by omega) (by decide) c_70
      have hsB : scB (100000 * kd + re) σ = (decide (re % 10 ≤ 1) && !decide (nI (closeA σ (nI (re / 1000)) (nI (re / 10 % 100)) (decide (re % 10 = 1))) = nI NN2)) := by rw [c_70]; exact (sc_m hre).1
      have hsS : scS (100000 * kd + re) σ = (if re % 10 ≤ 1 then closeR σ (nI (re / 1000)) (nI (re / 10 % 100)) (decide (re % 10 = 1)) else σ) := by rw [c_70]; exact (sc_m hre).2
      refine lv_iload hx hb dX8_command_278 (lv_at hl 2 rfl) ?_
      refine lv_iconst (v := (nI 2)) hx hb dX8_command_280 (by decide) ?_
      refine lv_icmp_ge (tgt := 340) hx hb dX8_command_281 (by decide) (fun c_281 => ?_) (fun c_281 => ?_)
      · have c_281 := (nc_le (by omega) (by omega) c_281)
        refine lv_iconst (v := (nI 0)) hx hb dX8_command_340 (by decide) ?_
        have heB : scB (100000 * kd + re) σ = false := hsB.trans (by simp [show ¬ re % 10 ≤ 1 by omega])
        exact wr_z (b := (scB (100000 * kd + re) σ)) (σ, wy, hp) (by rw [heB]; rfl) rfl (fun h8 => absurd h8 (by rw [heB]; exact Bool.false_ne_true)) hP hS hx hb hr dX8_command_341 hlk
      · have c_281 := (nc_nle (by omega) (by omega) c_281)
        refine lv_iload hx hb dX8_command_284 (lv_at hl 6 rfl) ?_
        refine rd_call (va_runS (As := [.int (nI (re / 1000))]) (rest := []) ⟨hx, hb, hml, hown, hts⟩ (c_X8_isCorner l (nI (re / 1000)) ) ⟨(cB 1 hts wd28_15 wd1_5 wd28_13 rfl rfl (by decide +kernel) ⟨Nat.le_of_ble_eq_true rfl, Nat.le_of_ble_eq_true rfl⟩), hts _ wd28_14⟩ p0 rfl rfl hl.1 rfl (lv_room (Nat.le_of_ble_eq_true rfl)) dX8_command_286 ⟨Nat.zero_le _, Nat.zero_le _⟩) ?_
        show W _ _ _ _ _ _ _ _ _ _ _ _ _ _ _ (F0 mX 289 ls [.int (bI (inR (nI (re / 1000)) (nI 0) (nI 11)))])
        refine ti (show (bI (inR (nI (re / 1000)) (nI 0) (nI 11))) = (bI (decide (re / 1000 ≤ 11))) from (congrArg bI (in_k (by omega) (by decide)))) ?_
        refine lv_if_eq (tgt := 340) hx hb dX8_command_289 (by decide) (fun c_289 => ?_) (fun c_289 => ?_)
        · have c_289 := (bI_eq0.mp c_289)
          have c_289 : ¬ re / 1000 ≤ 11 := of_decide_eq_false c_289
          refine lv_iconst (v := (nI 0)) hx hb dX8_command_340 (by decide) ?_
          have heB : scB (100000 * kd + re) σ = false := hsB.trans (by rw [decide_eq_true (clR_na c_289 (by omega))]; simp)
          exact wr_z (b := (scB (100000 * kd + re) σ)) (σ, wy, hp) (by rw [heB]; rfl) rfl (fun h8 => absurd h8 (by rw [heB]; exact Bool.false_ne_true)) hP hS hx hb hr dX8_command_341 hlk
        · have c_289 := (bI_ne0.mp c_289)
          have c_289 : re / 1000 ≤ 11 := of_decide_eq_true c_289
          refine lv_iload hx hb dX8_command_292 (lv_at hl 4 rfl) ?_
          refine rd_call (va_runS (As := [.int (nI ((re / 10) % 100))]) (rest := []) ⟨hx, hb, hml, hown, hts⟩ (c_X8_isCorner l (nI ((re / 10) % 100)) ) ⟨(cB 1 hts wd28_15 wd1_5 wd28_13 rfl rfl (by decide +kernel) ⟨Nat.le_of_ble_eq_true rfl, Nat.le_of_ble_eq_true rfl⟩), hts _ wd28_14⟩ p0 rfl rfl hl.1 rfl (lv_room (Nat.le_of_ble_eq_true rfl)) dX8_command_294 ⟨Nat.zero_le _, Nat.zero_le _⟩) ?_
          show W _ _ _ _ _ _ _ _ _ _ _ _ _ _ _ (F0 mX 297 ls [.int (bI (inR (nI ((re / 10) % 100)) (nI 0) (nI 11)))])
          refine ti (show (bI (inR (nI ((re / 10) % 100)) (nI 0) (nI 11))) = (bI (decide (re / 10 % 100 ≤ 11))) from (congrArg bI (in_k (by omega) (by decide)))) ?_
          refine lv_if_eq (tgt := 340) hx hb dX8_command_297 (by decide) (fun c_297 => ?_) (fun c_297 => ?_)
          · have c_297 := (bI_eq0.mp c_297)
            have c_297 : ¬ re / 10 % 100 ≤ 11 := of_decide_eq_false c_297
            refine lv_iconst (v := (nI 0)) hx hb dX8_command_340 (by decide) ?_
            have heB : scB (100000 * kd + re) σ = false := hsB.trans (by rw [decide_eq_true ((clR_no c_297 (by omega)).2)]; simp)
            exact wr_z (b := (scB (100000 * kd + re) σ)) (σ, wy, hp) (by rw [heB]; rfl) rfl (fun h8 => absurd h8 (by rw [heB]; exact Bool.false_ne_true)) hP hS hx hb hr dX8_command_341 hlk
          · have c_297 := (bI_ne0.mp c_297)
            have c_297 : re / 10 % 100 ≤ 11 := of_decide_eq_true c_297
            have hst9 := stp_lt (a := re / 1000) (b := re / 10 % 100) (by omega) (by omega)
            refine lv_iload hx hb dX8_command_300 (lv_at hl 6 rfl) ?_
            refine lv_iload hx hb dX8_command_302 (lv_at hl 4 rfl) ?_
            refine rd_call (va_runS (As := [.int (nI (re / 1000)), .int (nI ((re / 10) % 100))]) (rest := []) ⟨hx, hb, hml, hown, hts⟩ (c_X8_street l (re / 1000) ((re / 10) % 100) (by omega) (by omega)) ⟨(cB 2 hts wd13_23 wd1_5 wd13_21 rfl rfl (by decide +kernel) ⟨Nat.le_of_ble_eq_true rfl, Nat.le_of_ble_eq_true rfl⟩), hts _ wd13_22⟩ p0 rfl rfl hl.1 rfl (lv_room (Nat.le_of_ble_eq_true rfl)) dX8_command_304 ⟨Nat.zero_le _, Nat.zero_le _⟩) ?_
            show W _ _ _ _ _ _ _ _ _ _ _ _ _ _ _ (F0 mX 307 ls [.int (nI (stp (re / 1000) ((re / 10) % 100)))])
            refine lv_iconst (v := (nI NN)) hx hb dX8_command_307 (by decide) ?_
            refine lv_icmp_eq (tgt := 340) hx hb dX8_command_308 (by decide) (fun c_308 => ?_) (fun c_308 => ?_)
            · have c_308 := (nc_eq9 (by omega) (by decide) c_308)
              refine lv_iconst (v := (nI 0)) hx hb dX8_command_340 (by decide) ?_
              have heB : scB (100000 * kd + re) σ = false := hsB.trans (by rw [decide_eq_true (((close_a c_289 c_297).2 c_308).2)]; simp)
              exact wr_z (b := (scB (100000 * kd + re) σ)) (σ, wy, hp) (by rw [heB]; rfl) rfl (fun h8 => absurd h8 (by rw [heB]; exact Bool.false_ne_true)) hP hS hx hb hr dX8_command_341 hlk
            · have c_308 := (nc_ne9 (by omega) (by decide) c_308)
              obtain ⟨k9, hk9, hspl, hd1, hd2⟩ := (close_a (σ := σ) (on := decide (re % 10 = 1)) c_289 c_297).1 c_308
              have hct9 := ct_small (σ := clS σ k9 (decide (re % 10 = 1)))
              refine lv_aload_n hx hb dX8_command_311 rfl (lv_at hl 9 rfl) ?_
              refine va_get (D := g) (ci := 6) (v := .ref (ma 3)) (C := RX8) (T := TX8) (N := 13) hx hb hts bgX8 hown hK hP 0 rfl rfl 4 (by decide) (hts _ wd5_22) (fun _ h9 => h9) rfl dX8_command_312 ?_
              refine lv_iload hx hb dX8_command_315 (lv_at hl 6 rfl) ?_
              refine lv_iload hx hb dX8_command_317 (lv_at hl 4 rfl) ?_
              refine jn_i (pcj := 330) (ls := ls) (st := [.int (nI ((re / 10) % 100)), .int (nI (re / 1000)), .ref (ma 3)]) (fun v9 => v9 = (bI (decide (re % 10 = 1)))) ?_ (fun jn330 => ?_)
              · intro v9 hv9
                subst hv9
                refine wr_call (wc := [aI cy (ma 3) 248 (mS σ)]) (va_runS (As := [.ref (ma 3), .int (nI (re / 1000)), .int (nI ((re / 10) % 100)), .int (bI (decide (re % 10 = 1)))]) (rest := []) ⟨hx, hb, hml, hown, hts⟩ (c_X8_closeOn l g cy (ma 3) s.heap.size σ bd (re / 1000) ((re / 10) % 100) k9 (decide (re % 10 = 1)) hwf (by omega) (by omega) hk9 hspl) ⟨(cB 4 hts wd15_9 wd1_5 wd15_7 rfl rfl (by decide +kernel) ⟨Nat.le_of_ble_eq_true rfl, Nat.le_of_ble_eq_true rfl⟩), hts _ wd15_8⟩ (ps hK hP hD hS hA hX [3] rfl rfl) rfl rfl hl.1 rfl (lv_room (Nat.le_of_ble_eq_true rfl)) dX8_command_330 ⟨Nat.zero_le _, Nat.zero_le _⟩) hP hD hS hA [3] rfl rfl (fun _ => (rfl : ([ma 3] : List Nat) = [ma 3])) ?_
                rintro _u9 H locs - hP hD hS
                have hP : va_P g vwCl [(ma 0, .inr (6, [.int (nI rf), .ref (ma 1), .int (nI ln), .ref (ma 2), .ref (ma 3), .ref (ma 4), .int (nI n), .ref (ma 5), .ref (ma 6), .ref (ma 7), .ref (ma 8), .int (nI sp), .int (nI ou)])), aI cy (ma 1) 120 (mS tx), aI cy (ma 2) 248 (mS no), aI cy (ma 3) 248 (mS (clS σ k9 (decide (re % 10 = 1)))), aI cy (ma 4) 3472 (mS dy), aI cy (ma 5) 496 (mS kp), aZ cy (ma 6) 2 (fun j => bI (fl j)), aI cy (ma 7) 144 (mS wy), aI cy (ma 8) 8 (mS hp)] H := hP
                have hD : va_D A [(ma 0, .inr (6, [.int (nI rf), .ref (ma 1), .int (nI ln), .ref (ma 2), .ref (ma 3), .ref (ma 4), .int (nI n), .ref (ma 5), .ref (ma 6), .ref (ma 7), .ref (ma 8), .int (nI sp), .int (nI ou)])), aI cy (ma 1) 120 (mS tx), aI cy (ma 2) 248 (mS no), aI cy (ma 3) 248 (mS (clS σ k9 (decide (re % 10 = 1)))), aI cy (ma 4) 3472 (mS dy), aI cy (ma 5) 496 (mS kp), aZ cy (ma 6) 2 (fun j => bI (fl j)), aI cy (ma 7) 144 (mS wy), aI cy (ma 8) 8 (mS hp)] := hD
                show W _ _ _ _ _ _ _ _ _ _ _ _ _ _ _ (F0 mX 333 ls [.int (nI (ct (cmk (clS σ k9 (decide (re % 10 = 1)))).testBit 24))])
                refine lv_if_lt (tgt := 340) hx hb dX8_command_333 (by decide) (fun c_333 => ?_) (fun c_333 => ?_)
                · exact absurd c_333 (nI_pos (by omega))
                · skip
                  refine lv_iconst (v := (nI 1)) hx hb dX8_command_336 (by decide) ?_
                  refine lv_goto (tgt := 341) hx hb dX8_command_337 (by decide) ?_
                  have heB : scB (100000 * kd + re) σ = true := hsB.trans (by rw [decide_eq_true (show re % 10 ≤ 1 by omega), decide_eq_false hd2]; rfl)
                  have heS : scS (100000 * kd + re) σ = clS σ k9 (decide (re % 10 = 1)) := hsS.trans (by rw [if_pos (by omega), hd1])
                  exact wr_z (b := (scB (100000 * kd + re) σ)) ((clS σ k9 (decide (re % 10 = 1))), wy, hp) (by rw [heB]; rfl) rfl (fun _ => heS.symm) hP hS hx hb hr dX8_command_341 hlk
              · skip
                refine lv_iload hx hb dX8_command_319 (lv_at hl 2 rfl) ?_
                refine lv_iconst (v := (nI 1)) hx hb dX8_command_321 (by decide) ?_
                refine lv_icmp_ne (tgt := 329) hx hb dX8_command_322 (by decide) (fun c_322 => ?_) (fun c_322 => ?_)
                · have c_322 := (nc_ne9 (by omega) (by omega) c_322)
                  refine lv_iconst (v := (nI 0)) hx hb dX8_command_329 (by decide) ?_
                  exact jn330 _ (by simp [bI, nI_0, nI_o, c_322])
                · have c_322 := (nc_eq9 (by omega) (by omega) c_322)
                  refine lv_iconst (v := (nI 1)) hx hb dX8_command_325 (by decide) ?_
                  refine lv_goto (tgt := 330) hx hb dX8_command_326 (by decide) ?_
                  exact jn330 _ (by simp [bI, nI_0, nI_o, c_322])
    · have c_70 : (nI kd) = nI 5 := c_70
      refine lv_tableIn (tgt := 342) (off := 272) hx hb dX8_command_70 (by rw [c_70]; decide) (by rw [c_70]; decide) (by rw [c_70]; decide) (by decide) ?_
      have c_70 : kd = 5 := nc_eq (by omega) (by decide) c_70
      have hsB : scB (100000 * kd + re) σ = (decide (re / 100 % 100 = 0) && !decide (nI (setA σ (nI (re / 10000)) (nI (re % 100))) = nI NN2)) := by rw [c_70]; exact (sc_m hre).1
      have hsS : scS (100000 * kd + re) σ = (if re / 100 % 100 = 0 then setR σ (nI (re / 10000)) (nI (re % 100)) else σ) := by rw [c_70]; exact (sc_m hre).2
      refine lv_iload hx hb dX8_command_342 (lv_at hl 5 rfl) ?_
      refine lv_if_ne (tgt := 373) hx hb dX8_command_344 (by decide) (fun c_344 => ?_) (fun c_344 => ?_)
      · have c_344 := (nz_ne c_344 (by omega))
        refine lv_iconst (v := (nI 0)) hx hb dX8_command_373 (by decide) ?_
        have heB : scB (100000 * kd + re) σ = false := hsB.trans (by simp [c_344])
        exact wr_z (b := (scB (100000 * kd + re) σ)) (σ, wy, hp) (by rw [heB]; rfl) rfl (fun h8 => absurd h8 (by rw [heB]; exact Bool.false_ne_true)) hP hS hx hb hr dX8_command_374 hlk
      · have c_344 := (nz_eq c_344 (by omega))
        refine lv_iload_n hx hb dX8_command_347 rfl (lv_at hl 8 rfl) ?_
        refine lv_iload hx hb dX8_command_348 (lv_at hl 0 rfl) ?_
        refine rd_call (va_runS (As := [.int (nI (re / 10000)), .int (nI (re % 100))]) (rest := []) ⟨hx, hb, hml, hown, hts⟩ (c_X8_isSetting l (nI (re / 10000)) (nI (re % 100)) ) ⟨(cB 2 hts wd34_1 wd1_5 wd33_23 rfl rfl (by decide +kernel) ⟨Nat.le_of_ble_eq_true rfl, Nat.le_of_ble_eq_true rfl⟩), hts _ wd34_0⟩ p0 rfl rfl hl.1 rfl (lv_room (Nat.le_of_ble_eq_true rfl)) dX8_command_350 ⟨Nat.zero_le _, Nat.zero_le _⟩) ?_
        show W _ _ _ _ _ _ _ _ _ _ _ _ _ _ _ (F0 mX 353 ls [.int (bI ((decide ((nI (re / 10000)) = 0) && inR (nI (re % 100)) (nI 0) (nI 50)) || (decide ((nI (re / 10000)) = nI 1) && inR (nI (re % 100)) (nI 0) (nI 8))))])
        refine lv_if_eq (tgt := 373) hx hb dX8_command_353 (by decide) (fun c_353 => ?_) (fun c_353 => ?_)
        · have c_353 := (bI_eq0.mp c_353)
          refine lv_iconst (v := (nI 0)) hx hb dX8_command_373 (by decide) ?_
          have heB : scB (100000 * kd + re) σ = false := hsB.trans (by rw [decide_eq_true (se_n (show fSet (nI (re / 10000)) (nI (re % 100)) ≠ 0 by rw [se_b, if_neg (by rw [c_353]; decide)]; decide))]; simp)
          exact wr_z (b := (scB (100000 * kd + re) σ)) (σ, wy, hp) (by rw [heB]; rfl) rfl (fun h8 => absurd h8 (by rw [heB]; exact Bool.false_ne_true)) hP hS hx hb hr dX8_command_374 hlk
        · have c_353 := (bI_ne0.mp c_353)
          have hf0 : fSet (nI (re / 10000)) (nI (re % 100)) = 0 := by rw [se_b, if_pos c_353]
          have hse := se_e (σ := σ) (show re / 10000 < 10 by omega) (show re % 100 < 100 by omega) hf0
          have hs67 : σ (6 + re / 10000) ≤ 50 := by
            rcases (show re / 10000 = 0 ∨ re / 10000 = 1 by omega) with e | e
            · rw [e]; exact hwf.2.2.2.2.1
            · rw [e]; exact Nat.le_trans hwf.2.2.2.2.2.1 (by decide)
          refine lv_aload_n hx hb dX8_command_356 rfl (lv_at hl 9 rfl) ?_
          refine va_get (D := g) (ci := 6) (v := .ref (ma 3)) (C := RX8) (T := TX8) (N := 13) hx hb hts bgX8 hown hK hP 0 rfl rfl 4 (by decide) (hts _ wd5_22) (fun _ h9 => h9) rfl dX8_command_357 ?_
          refine lv_iload_n hx hb dX8_command_360 rfl (lv_at hl 8 rfl) ?_
          refine lv_iload hx hb dX8_command_361 (lv_at hl 0 rfl) ?_
          refine wr_call (wc := [aI cy (ma 3) 248 (mS σ)]) (va_runS (As := [.ref (ma 3), .int (nI (re / 10000)), .int (nI (re % 100))]) (rest := []) ⟨hx, hb, hml, hown, hts⟩ (c_X8_change l g cy (ma 3) s.heap.size σ (re / 10000) (re % 100) hse.1) ⟨(cB 3 hts wd34_5 wd1_5 wd34_3 rfl rfl (by decide +kernel) ⟨Nat.le_of_ble_eq_true rfl, Nat.le_of_ble_eq_true rfl⟩), hts _ wd34_4⟩ (ps hK hP hD hS hA hX [3] rfl rfl) rfl rfl hl.1 rfl (lv_room (Nat.le_of_ble_eq_true rfl)) dX8_command_363 ⟨Nat.zero_le _, Nat.zero_le _⟩) hP hD hS hA [3] rfl rfl (fun _ => (rfl : ([ma 3] : List Nat) = [ma 3])) ?_
          rintro _u9 H locs - hP hD hS
          have hP : va_P g vwCl [(ma 0, .inr (6, [.int (nI rf), .ref (ma 1), .int (nI ln), .ref (ma 2), .ref (ma 3), .ref (ma 4), .int (nI n), .ref (ma 5), .ref (ma 6), .ref (ma 7), .ref (ma 8), .int (nI sp), .int (nI ou)])), aI cy (ma 1) 120 (mS tx), aI cy (ma 2) 248 (mS no), aI cy (ma 3) 248 (mS (up σ (6 + (re / 10000)) (re % 100))), aI cy (ma 4) 3472 (mS dy), aI cy (ma 5) 496 (mS kp), aZ cy (ma 6) 2 (fun j => bI (fl j)), aI cy (ma 7) 144 (mS wy), aI cy (ma 8) 8 (mS hp)] H := hP
          have hD : va_D A [(ma 0, .inr (6, [.int (nI rf), .ref (ma 1), .int (nI ln), .ref (ma 2), .ref (ma 3), .ref (ma 4), .int (nI n), .ref (ma 5), .ref (ma 6), .ref (ma 7), .ref (ma 8), .int (nI sp), .int (nI ou)])), aI cy (ma 1) 120 (mS tx), aI cy (ma 2) 248 (mS no), aI cy (ma 3) 248 (mS (up σ (6 + (re / 10000)) (re % 100))), aI cy (ma 4) 3472 (mS dy), aI cy (ma 5) 496 (mS kp), aZ cy (ma 6) 2 (fun j => bI (fl j)), aI cy (ma 7) 144 (mS wy), aI cy (ma 8) 8 (mS hp)] := hD
          show W _ _ _ _ _ _ _ _ _ _ _ _ _ _ _ (F0 mX 366 ls [.int (nI (σ (6 + (re / 10000))))])
          refine lv_if_lt (tgt := 373) hx hb dX8_command_366 (by decide) (fun c_366 => ?_) (fun c_366 => ?_)
          · exact absurd c_366 (nI_pos (by omega))
          · skip
            refine lv_iconst (v := (nI 1)) hx hb dX8_command_369 (by decide) ?_
            refine lv_goto (tgt := 374) hx hb dX8_command_370 (by decide) ?_
            have heB : scB (100000 * kd + re) σ = true := hsB.trans (by rw [decide_eq_true (show re / 100 % 100 = 0 by omega), hse.2.2, decide_eq_false (nn2_ne (by omega))]; rfl)
            have heS : scS (100000 * kd + re) σ = up σ (6 + (re / 10000)) (re % 100) := hsS.trans (by rw [if_pos (by omega), hse.2.1])
            exact wr_z (b := (scB (100000 * kd + re) σ)) ((up σ (6 + (re / 10000)) (re % 100)), wy, hp) (by rw [heB]; rfl) rfl (fun _ => heS.symm) hP hS hx hb hr dX8_command_374 hlk
    · have c_70 : (nI kd) = nI 6 := c_70
      refine lv_tableIn (tgt := 375) (off := 305) hx hb dX8_command_70 (by rw [c_70]; decide) (by rw [c_70]; decide) (by rw [c_70]; decide) (by decide) ?_
      have c_70 : kd = 6 := nc_eq (by omega) (by decide) c_70
      have hsB : scB (100000 * kd + re) σ = (decide (re % 100 = 0) && (decide (re / 100 % 100 < 12) && ((decide (re / 10000 < σ 0) && msg σ (re / 10000)) && cbe σ (re / 10000) (re / 100 % 100)))) := by rw [c_70]; exact (sc_m hre).1
      have hsS : scS (100000 * kd + re) σ = (σ) := by rw [c_70]; exact (sc_m hre).2
      refine lv_iload hx hb dX8_command_375 (lv_at hl 0 rfl) ?_
      refine lv_if_ne (tgt := 424) hx hb dX8_command_377 (by decide) (fun c_377 => ?_) (fun c_377 => ?_)
      · have c_377 := (nz_ne c_377 (by omega))
        refine lv_iconst (v := (nI 0)) hx hb dX8_command_424 (by decide) ?_
        have heB : scB (100000 * kd + re) σ = false := hsB.trans (by simp [c_377])
        exact wr_z (b := (scB (100000 * kd + re) σ)) (σ, wy, hp) (by rw [heB]; rfl) rfl (fun h8 => absurd h8 (by rw [heB]; exact Bool.false_ne_true)) hP hS hx hb hr dX8_command_425 hlk
      · have c_377 := (nz_eq c_377 (by omega))
        refine lv_aload_n hx hb dX8_command_380 rfl (lv_at hl 9 rfl) ?_
        refine va_get (D := g) (ci := 6) (v := .ref (ma 3)) (C := RX8) (T := TX8) (N := 13) hx hb hts bgX8 hown hK hP 0 rfl rfl 4 (by decide) (hts _ wd5_22) (fun _ h9 => h9) rfl dX8_command_381 ?_
        refine lv_iload_n hx hb dX8_command_384 rfl (lv_at hl 8 rfl) ?_
        refine rd_call (va_runS (As := [.ref (ma 3), .int (nI (re / 10000))]) (rest := []) ⟨hx, hb, hml, hown, hts⟩ (c_X8_isDog l g cy (ma 3) s.heap.size σ (nI (re / 10000)) (by omega)) ⟨(cB 2 hts wd13_12 wd1_5 wd13_10 rfl rfl (by decide +kernel) ⟨Nat.le_of_ble_eq_true rfl, Nat.le_of_ble_eq_true rfl⟩), hts _ wd13_11⟩ (ps hK hP hD hS hA hX [3] rfl rfl) rfl rfl hl.1 rfl (lv_room (Nat.le_of_ble_eq_true rfl)) dX8_command_385 ⟨Nat.zero_le _, Nat.zero_le _⟩) ?_
        show W _ _ _ _ _ _ _ _ _ _ _ _ _ _ _ (F0 mX 388 ls [.int (bI (hasR (σ 0) (nI (re / 10000))))])
        refine ti (show (bI (hasR (σ 0) (nI (re / 10000)))) = (bI (decide (re / 10000 < σ 0))) from (congrArg bI (hasR_n (by omega) (by omega)))) ?_
        refine lv_if_eq (tgt := 424) hx hb dX8_command_388 (by decide) (fun c_388 => ?_) (fun c_388 => ?_)
        · have c_388 := (bI_eq0.mp c_388)
          have c_388 : ¬ re / 10000 < σ 0 := of_decide_eq_false c_388
          refine lv_iconst (v := (nI 0)) hx hb dX8_command_424 (by decide) ?_
          have heB : scB (100000 * kd + re) σ = false := hsB.trans (by simp [c_388])
          exact wr_z (b := (scB (100000 * kd + re) σ)) (σ, wy, hp) (by rw [heB]; rfl) rfl (fun h8 => absurd h8 (by rw [heB]; exact Bool.false_ne_true)) hP hS hx hb hr dX8_command_425 hlk
        · have c_388 := (bI_ne0.mp c_388)
          have c_388 : re / 10000 < σ 0 := of_decide_eq_true c_388
          refine lv_iload hx hb dX8_command_391 (lv_at hl 5 rfl) ?_
          refine rd_call (va_runS (As := [.int (nI ((re / 100) % 100))]) (rest := []) ⟨hx, hb, hml, hown, hts⟩ (c_X8_isCorner l (nI ((re / 100) % 100)) ) ⟨(cB 1 hts wd28_15 wd1_5 wd28_13 rfl rfl (by decide +kernel) ⟨Nat.le_of_ble_eq_true rfl, Nat.le_of_ble_eq_true rfl⟩), hts _ wd28_14⟩ p0 rfl rfl hl.1 rfl (lv_room (Nat.le_of_ble_eq_true rfl)) dX8_command_393 ⟨Nat.zero_le _, Nat.zero_le _⟩) ?_
          show W _ _ _ _ _ _ _ _ _ _ _ _ _ _ _ (F0 mX 396 ls [.int (bI (inR (nI ((re / 100) % 100)) (nI 0) (nI 11)))])
          refine ti (show (bI (inR (nI ((re / 100) % 100)) (nI 0) (nI 11))) = (bI (decide (re / 100 % 100 ≤ 11))) from (congrArg bI (in_k (by omega) (by decide)))) ?_
          refine lv_if_eq (tgt := 424) hx hb dX8_command_396 (by decide) (fun c_396 => ?_) (fun c_396 => ?_)
          · have c_396 := (bI_eq0.mp c_396)
            have c_396 : ¬ re / 100 % 100 ≤ 11 := of_decide_eq_false c_396
            refine lv_iconst (v := (nI 0)) hx hb dX8_command_424 (by decide) ?_
            have heB : scB (100000 * kd + re) σ = false := hsB.trans (by simp [show ¬ re / 100 % 100 < 12 by omega])
            exact wr_z (b := (scB (100000 * kd + re) σ)) (σ, wy, hp) (by rw [heB]; rfl) rfl (fun h8 => absurd h8 (by rw [heB]; exact Bool.false_ne_true)) hP hS hx hb hr dX8_command_425 hlk
          · have c_396 := (bI_ne0.mp c_396)
            have c_396 : re / 100 % 100 ≤ 11 := of_decide_eq_true c_396
            have hdb := hwf.db (show re / 10000 < σ 0 by omega)
            refine lv_aload_n hx hb dX8_command_399 rfl (lv_at hl 9 rfl) ?_
            refine va_get (D := g) (ci := 6) (v := .ref (ma 3)) (C := RX8) (T := TX8) (N := 13) hx hb hts bgX8 hown hK hP 0 rfl rfl 4 (by decide) (hts _ wd5_22) (fun _ h9 => h9) rfl dX8_command_400 ?_
            refine lv_iload_n hx hb dX8_command_403 rfl (lv_at hl 8 rfl) ?_
            refine rd_call (va_runS (As := [.ref (ma 3), .int (nI (re / 10000))]) (rest := []) ⟨hx, hb, hml, hown, hts⟩ (c_X8_isMissing l g cy (ma 3) s.heap.size σ (re / 10000) (by omega) (by omega)) ⟨(cB 2 hts wd12_20 wd1_5 wd12_18 rfl rfl (by decide +kernel) ⟨Nat.le_of_ble_eq_true rfl, Nat.le_of_ble_eq_true rfl⟩), hts _ wd12_19⟩ (ps hK hP hD hS hA hX [3] rfl rfl) rfl rfl hl.1 rfl (lv_room (Nat.le_of_ble_eq_true rfl)) dX8_command_404 ⟨Nat.zero_le _, Nat.zero_le _⟩) ?_
            show W _ _ _ _ _ _ _ _ _ _ _ _ _ _ _ (F0 mX 407 ls [.int (bI (msg σ (re / 10000)))])
            refine lv_if_eq (tgt := 424) hx hb dX8_command_407 (by decide) (fun c_407 => ?_) (fun c_407 => ?_)
            · have c_407 := (bI_eq0.mp c_407)
              refine lv_iconst (v := (nI 0)) hx hb dX8_command_424 (by decide) ?_
              have heB : scB (100000 * kd + re) σ = false := hsB.trans (by simp [c_407])
              exact wr_z (b := (scB (100000 * kd + re) σ)) (σ, wy, hp) (by rw [heB]; rfl) rfl (fun h8 => absurd h8 (by rw [heB]; exact Bool.false_ne_true)) hP hS hx hb hr dX8_command_425 hlk
            · have c_407 := (bI_ne0.mp c_407)
              refine lv_aload_n hx hb dX8_command_410 rfl (lv_at hl 9 rfl) ?_
              refine lv_iload_n hx hb dX8_command_411 rfl (lv_at hl 8 rfl) ?_
              refine lv_iload hx hb dX8_command_412 (lv_at hl 5 rfl) ?_
              refine wr_call (wc := [(ma 0, .inr (6, [.int (nI rf), .ref (ma 1), .int (nI ln), .ref (ma 2), .ref (ma 3), .ref (ma 4), .int (nI n), .ref (ma 5), .ref (ma 6), .ref (ma 7), .ref (ma 8), .int (nI sp), .int (nI ou)])), aI cy (ma 1) 120 (mS tx), aI cy (ma 2) 248 (mS no), aI cy (ma 3) 248 (mS σ), aI cy (ma 4) 3472 (mS dy), aI cy (ma 5) 496 (mS kp), aZ cy (ma 6) 2 (fun j => bI (fl j)), aI cy (ma 7) 144 (mS wy), aI cy (ma 8) 8 (mS hp)]) (va_runV (As := [.int (nI (re / 10000)), .int (nI ((re / 100) % 100))]) (rest := []) ⟨hx, hb, hml, hown, hts⟩ (c_X8_canBeNow l g cy  s.heap.size ma σ dy kp wy hp sp ou rf no n fl tx ln (re / 10000) ((re / 100) % 100) bd hwf (by omega) (by omega)) ⟨(cB 2 hts wd39_16 wd1_5 wd39_13 rfl rfl (by decide +kernel) ⟨Nat.le_of_ble_eq_true rfl, Nat.le_of_ble_eq_true rfl⟩), hts _ wd39_14, hts _ wd39_15⟩ (pv hK hP hD hS hA hX [0, 1, 2, 3, 4, 5, 6, 7, 8] rfl rfl 6 0 rfl rfl) rfl rfl hl.1 rfl (lv_room (Nat.le_of_ble_eq_true rfl)) dX8_command_414 ⟨Nat.zero_le _, Nat.zero_le _⟩) hP hD hS hA [0, 1, 2, 3, 4, 5, 6, 7, 8] rfl rfl (fun _ => (rfl : ([ma 0, ma 1, ma 2, ma 3, ma 4, ma 5, ma 6, ma 7, ma 8] : List Nat) = [ma 0, ma 1, ma 2, ma 3, ma 4, ma 5, ma 6, ma 7, ma 8])) ?_
              rintro _u9 H locs - hP hD hS
              have hP : va_P g vwCl [(ma 0, .inr (6, [.int (nI rf), .ref (ma 1), .int (nI ln), .ref (ma 2), .ref (ma 3), .ref (ma 4), .int (nI n), .ref (ma 5), .ref (ma 6), .ref (ma 7), .ref (ma 8), .int (nI sp), .int (nI ou)])), aI cy (ma 1) 120 (mS tx), aI cy (ma 2) 248 (mS no), aI cy (ma 3) 248 (mS σ), aI cy (ma 4) 3472 (mS dy), aI cy (ma 5) 496 (mS kp), aZ cy (ma 6) 2 (fun j => bI (fl j)), aI cy (ma 7) 144 (mS (D σ)), aI cy (ma 8) 8 (mS hp)] H := hP
              have hD : va_D A [(ma 0, .inr (6, [.int (nI rf), .ref (ma 1), .int (nI ln), .ref (ma 2), .ref (ma 3), .ref (ma 4), .int (nI n), .ref (ma 5), .ref (ma 6), .ref (ma 7), .ref (ma 8), .int (nI sp), .int (nI ou)])), aI cy (ma 1) 120 (mS tx), aI cy (ma 2) 248 (mS no), aI cy (ma 3) 248 (mS σ), aI cy (ma 4) 3472 (mS dy), aI cy (ma 5) 496 (mS kp), aZ cy (ma 6) 2 (fun j => bI (fl j)), aI cy (ma 7) 144 (mS (D σ)), aI cy (ma 8) 8 (mS hp)] := hD
              show W _ _ _ _ _ _ _ _ _ _ _ _ _ _ _ (F0 mX 417 ls [.int (bI (cbe σ (re / 10000) ((re / 100) % 100)))])
              refine lv_if_eq (tgt := 424) hx hb dX8_command_417 (by decide) (fun c_417 => ?_) (fun c_417 => ?_)
              · have c_417 := (bI_eq0.mp c_417)
                refine lv_iconst (v := (nI 0)) hx hb dX8_command_424 (by decide) ?_
                have heB : scB (100000 * kd + re) σ = false := hsB.trans (by simp [c_417])
                exact wr_z (b := (scB (100000 * kd + re) σ)) (σ, (D σ), hp) (by rw [heB]; rfl) rfl (fun h8 => absurd h8 (by rw [heB]; exact Bool.false_ne_true)) hP hS hx hb hr dX8_command_425 hlk
              · have c_417 := (bI_ne0.mp c_417)
                refine lv_iconst (v := (nI 1)) hx hb dX8_command_420 (by decide) ?_
                refine lv_goto (tgt := 425) hx hb dX8_command_421 (by decide) ?_
                have heB : scB (100000 * kd + re) σ = true := hsB.trans (by simp [c_377, c_388, show re / 100 % 100 < 12 by omega, c_407, c_417])
                have heS : scS (100000 * kd + re) σ = σ := hsS.trans (rfl)
                exact wr_z (b := (scB (100000 * kd + re) σ)) (σ, (D σ), hp) (by rw [heB]; rfl) rfl (fun _ => heS.symm) hP hS hx hb hr dX8_command_425 hlk
    · have c_70 : (nI kd) = nI 7 := c_70
      refine lv_tableIn (tgt := 426) (off := 356) hx hb dX8_command_70 (by rw [c_70]; decide) (by rw [c_70]; decide) (by rw [c_70]; decide) (by decide) ?_
      have c_70 : kd = 7 := nc_eq (by omega) (by decide) c_70
      have hsB : scB (100000 * kd + re) σ = (decide (re / 10000 = 0) && (decide (re / 100 % 100 = 0) && decide (ct (frd σ) (σ 1) ≤ re % 100))) := by rw [c_70]; exact (sc_m hre).1
      have hsS : scS (100000 * kd + re) σ = (σ) := by rw [c_70]; exact (sc_m hre).2
      refine lv_iload_n hx hb dX8_command_426 rfl (lv_at hl 11 rfl) ?_
      refine lv_bipush (v := (nI 100)) hx hb dX8_command_427 (by decide) ?_
      refine lv_icmp_ge (tgt := 444) hx hb dX8_command_429 (by decide) (fun c_429 => ?_) (fun c_429 => ?_)
      · have c_429 := (nc_le (by omega) (by omega) c_429)
        refine lv_iconst (v := (nI 0)) hx hb dX8_command_444 (by decide) ?_
        have heB : scB (100000 * kd + re) σ = false := hsB.trans (by rcases (show re / 10000 ≠ 0 ∨ re / 100 % 100 ≠ 0 by omega) with h1 | h1 <;> simp [h1])
        exact wr_z (b := (scB (100000 * kd + re) σ)) (σ, wy, hp) (by rw [heB]; rfl) rfl (fun h8 => absurd h8 (by rw [heB]; exact Bool.false_ne_true)) hP hS hx hb hr dX8_command_445 hlk
      · have c_429 := (nc_nle (by omega) (by omega) c_429)
        have hfr9 := ct_le (frd σ) (σ 1)
        refine lv_aload_n hx hb dX8_command_432 rfl (lv_at hl 9 rfl) ?_
        refine wr_call (wc := [(ma 0, .inr (6, [.int (nI rf), .ref (ma 1), .int (nI ln), .ref (ma 2), .ref (ma 3), .ref (ma 4), .int (nI n), .ref (ma 5), .ref (ma 6), .ref (ma 7), .ref (ma 8), .int (nI sp), .int (nI ou)])), aI cy (ma 1) 120 (mS tx), aI cy (ma 2) 248 (mS no), aI cy (ma 3) 248 (mS σ), aI cy (ma 4) 3472 (mS dy), aI cy (ma 5) 496 (mS kp), aZ cy (ma 6) 2 (fun j => bI (fl j)), aI cy (ma 7) 144 (mS wy), aI cy (ma 8) 8 (mS hp)]) (va_runV (As := []) (rest := []) ⟨hx, hb, hml, hown, hts⟩ (c_X8_fraudsNow l g cy  s.heap.size ma σ dy kp wy hp sp ou rf no n fl tx ln bd hwf) ⟨(cB 0 hts wd39_20 wd1_5 wd39_17 rfl rfl (by decide +kernel) ⟨Nat.le_of_ble_eq_true rfl, Nat.le_of_ble_eq_true rfl⟩), hts _ wd39_18, hts _ wd39_19⟩ (pv hK hP hD hS hA hX [0, 1, 2, 3, 4, 5, 6, 7, 8] rfl rfl 6 0 rfl rfl) rfl rfl hl.1 rfl (lv_room (Nat.le_of_ble_eq_true rfl)) dX8_command_433 ⟨Nat.zero_le _, Nat.zero_le _⟩) hP hD hS hA [0, 1, 2, 3, 4, 5, 6, 7, 8] rfl rfl (fun _ => (rfl : ([ma 0, ma 1, ma 2, ma 3, ma 4, ma 5, ma 6, ma 7, ma 8] : List Nat) = [ma 0, ma 1, ma 2, ma 3, ma 4, ma 5, ma 6, ma 7, ma 8])) ?_
        rintro _u9 H locs - hP hD hS
        have hP : va_P g vwCl [(ma 0, .inr (6, [.int (nI rf), .ref (ma 1), .int (nI ln), .ref (ma 2), .ref (ma 3), .ref (ma 4), .int (nI n), .ref (ma 5), .ref (ma 6), .ref (ma 7), .ref (ma 8), .int (nI sp), .int (nI ou)])), aI cy (ma 1) 120 (mS tx), aI cy (ma 2) 248 (mS no), aI cy (ma 3) 248 (mS σ), aI cy (ma 4) 3472 (mS dy), aI cy (ma 5) 496 (mS kp), aZ cy (ma 6) 2 (fun j => bI (fl j)), aI cy (ma 7) 144 (mS (D σ)), aI cy (ma 8) 8 (mS hp)] H := hP
        have hD : va_D A [(ma 0, .inr (6, [.int (nI rf), .ref (ma 1), .int (nI ln), .ref (ma 2), .ref (ma 3), .ref (ma 4), .int (nI n), .ref (ma 5), .ref (ma 6), .ref (ma 7), .ref (ma 8), .int (nI sp), .int (nI ou)])), aI cy (ma 1) 120 (mS tx), aI cy (ma 2) 248 (mS no), aI cy (ma 3) 248 (mS σ), aI cy (ma 4) 3472 (mS dy), aI cy (ma 5) 496 (mS kp), aZ cy (ma 6) 2 (fun j => bI (fl j)), aI cy (ma 7) 144 (mS (D σ)), aI cy (ma 8) 8 (mS hp)] := hD
        show W _ _ _ _ _ _ _ _ _ _ _ _ _ _ _ (F0 mX 436 ls [.int (nI (ct (frd σ) (σ 1)))])
        refine lv_iload_n hx hb dX8_command_436 rfl (lv_at hl 11 rfl) ?_
        refine lv_icmp_gt (tgt := 444) hx hb dX8_command_437 (by decide) (fun c_437 => ?_) (fun c_437 => ?_)
        · have c_437 := (nc_lt (by omega) (by omega) c_437)
          refine lv_iconst (v := (nI 0)) hx hb dX8_command_444 (by decide) ?_
          have heB : scB (100000 * kd + re) σ = false := hsB.trans (by simp [show ¬ ct (frd σ) (σ 1) ≤ re % 100 by omega])
          exact wr_z (b := (scB (100000 * kd + re) σ)) (σ, (D σ), hp) (by rw [heB]; rfl) rfl (fun h8 => absurd h8 (by rw [heB]; exact Bool.false_ne_true)) hP hS hx hb hr dX8_command_445 hlk
        · have c_437 := (nc_nlt (by omega) (by omega) c_437)
          refine lv_iconst (v := (nI 1)) hx hb dX8_command_440 (by decide) ?_
          refine lv_goto (tgt := 445) hx hb dX8_command_441 (by decide) ?_
          have heB : scB (100000 * kd + re) σ = true := hsB.trans (by simp [show re / 10000 = 0 by omega, show re / 100 % 100 = 0 by omega, show ct (frd σ) (σ 1) ≤ re % 100 by omega])
          have heS : scS (100000 * kd + re) σ = σ := hsS.trans (rfl)
          exact wr_z (b := (scB (100000 * kd + re) σ)) (σ, (D σ), hp) (by rw [heB]; rfl) rfl (fun _ => heS.symm) hP hS hx hb hr dX8_command_445 hlk
    · have c_70 : (nI kd) = nI 8 := c_70
      refine lv_tableIn (tgt := 446) (off := 376) hx hb dX8_command_70 (by rw [c_70]; decide) (by rw [c_70]; decide) (by rw [c_70]; decide) (by decide) ?_
      have c_70 : kd = 8 := nc_eq (by omega) (by decide) c_70
      have hsB : scB (100000 * kd + re) σ = (decide (re / 1000 % 10 = 0) && (decide (re / 10000 < σ 0) && decide (re % 1000 ≤ dg σ (re / 10000) 4))) := by rw [c_70]; exact (sc_m hre).1
      have hsS : scS (100000 * kd + re) σ = (σ) := by rw [c_70]; exact (sc_m hre).2
      refine lv_iload hx hb dX8_command_446 (lv_at hl 7 rfl) ?_
      refine lv_if_ne (tgt := 480) hx hb dX8_command_448 (by decide) (fun c_448 => ?_) (fun c_448 => ?_)
      · have c_448 := (nz_ne c_448 (by omega))
        refine lv_iconst (v := (nI 0)) hx hb dX8_command_480 (by decide) ?_
        have heB : scB (100000 * kd + re) σ = false := hsB.trans (by simp [c_448])
        exact wr_z (b := (scB (100000 * kd + re) σ)) (σ, wy, hp) (by rw [heB]; rfl) rfl (fun h8 => absurd h8 (by rw [heB]; exact Bool.false_ne_true)) hP hS hx hb hr dX8_command_481 hlk
      · have c_448 := (nz_eq c_448 (by omega))
        refine lv_aload_n hx hb dX8_command_451 rfl (lv_at hl 9 rfl) ?_
        refine va_get (D := g) (ci := 6) (v := .ref (ma 3)) (C := RX8) (T := TX8) (N := 13) hx hb hts bgX8 hown hK hP 0 rfl rfl 4 (by decide) (hts _ wd5_22) (fun _ h9 => h9) rfl dX8_command_452 ?_
        refine lv_iload_n hx hb dX8_command_455 rfl (lv_at hl 8 rfl) ?_
        refine rd_call (va_runS (As := [.ref (ma 3), .int (nI (re / 10000))]) (rest := []) ⟨hx, hb, hml, hown, hts⟩ (c_X8_isDog l g cy (ma 3) s.heap.size σ (nI (re / 10000)) (by omega)) ⟨(cB 2 hts wd13_12 wd1_5 wd13_10 rfl rfl (by decide +kernel) ⟨Nat.le_of_ble_eq_true rfl, Nat.le_of_ble_eq_true rfl⟩), hts _ wd13_11⟩ (ps hK hP hD hS hA hX [3] rfl rfl) rfl rfl hl.1 rfl (lv_room (Nat.le_of_ble_eq_true rfl)) dX8_command_456 ⟨Nat.zero_le _, Nat.zero_le _⟩) ?_
        show W _ _ _ _ _ _ _ _ _ _ _ _ _ _ _ (F0 mX 459 ls [.int (bI (hasR (σ 0) (nI (re / 10000))))])
        refine ti (show (bI (hasR (σ 0) (nI (re / 10000)))) = (bI (decide (re / 10000 < σ 0))) from (congrArg bI (hasR_n (by omega) (by omega)))) ?_
        refine lv_if_eq (tgt := 480) hx hb dX8_command_459 (by decide) (fun c_459 => ?_) (fun c_459 => ?_)
        · have c_459 := (bI_eq0.mp c_459)
          have c_459 : ¬ re / 10000 < σ 0 := of_decide_eq_false c_459
          refine lv_iconst (v := (nI 0)) hx hb dX8_command_480 (by decide) ?_
          have heB : scB (100000 * kd + re) σ = false := hsB.trans (by simp [c_459])
          exact wr_z (b := (scB (100000 * kd + re) σ)) (σ, wy, hp) (by rw [heB]; rfl) rfl (fun h8 => absurd h8 (by rw [heB]; exact Bool.false_ne_true)) hP hS hx hb hr dX8_command_481 hlk
        · have c_459 := (bI_ne0.mp c_459)
          have c_459 : re / 10000 < σ 0 := of_decide_eq_true c_459
          have hdb := hwf.db (show re / 10000 < σ 0 by omega)
          refine lv_aload_n hx hb dX8_command_462 rfl (lv_at hl 9 rfl) ?_
          refine va_get (D := g) (ci := 6) (v := .ref (ma 3)) (C := RX8) (T := TX8) (N := 13) hx hb hts bgX8 hown hK hP 0 rfl rfl 4 (by decide) (hts _ wd5_22) (fun _ h9 => h9) rfl dX8_command_463 ?_
          refine lv_iload_n hx hb dX8_command_466 rfl (lv_at hl 8 rfl) ?_
          refine lv_iconst (v := (nI 4)) hx hb dX8_command_467 (by decide) ?_
          refine rd_call (va_runS (As := [.ref (ma 3), .int (nI (re / 10000)), .int (nI 4)]) (rest := []) ⟨hx, hb, hml, hown, hts⟩ (c_X8_ofDog l g cy (ma 3) s.heap.size σ (re / 10000) 4 (by omega) (by omega)) ⟨(cB 3 hts wd12_23 wd1_5 wd12_21 rfl rfl (by decide +kernel) ⟨Nat.le_of_ble_eq_true rfl, Nat.le_of_ble_eq_true rfl⟩), hts _ wd12_22⟩ (ps hK hP hD hS hA hX [3] rfl rfl) rfl rfl hl.1 rfl (lv_room (Nat.le_of_ble_eq_true rfl)) dX8_command_468 ⟨Nat.zero_le _, Nat.zero_le _⟩) ?_
          show W _ _ _ _ _ _ _ _ _ _ _ _ _ _ _ (F0 mX 471 ls [.int (nI (dg σ (re / 10000) 4))])
          refine lv_iload hx hb dX8_command_471 (lv_at hl 1 rfl) ?_
          refine lv_icmp_lt (tgt := 480) hx hb dX8_command_473 (by decide) (fun c_473 => ?_) (fun c_473 => ?_)
          · have c_473 := (nc_lt (by omega) (by omega) c_473)
            refine lv_iconst (v := (nI 0)) hx hb dX8_command_480 (by decide) ?_
            have heB : scB (100000 * kd + re) σ = false := hsB.trans (by simp [Nat.not_le.mpr c_473])
            exact wr_z (b := (scB (100000 * kd + re) σ)) (σ, wy, hp) (by rw [heB]; rfl) rfl (fun h8 => absurd h8 (by rw [heB]; exact Bool.false_ne_true)) hP hS hx hb hr dX8_command_481 hlk
          · have c_473 := (nc_nlt (by omega) (by omega) c_473)
            refine lv_iconst (v := (nI 1)) hx hb dX8_command_476 (by decide) ?_
            refine lv_goto (tgt := 481) hx hb dX8_command_477 (by decide) ?_
            have heB : scB (100000 * kd + re) σ = true := hsB.trans (by simp [c_448, c_459, c_473])
            have heS : scS (100000 * kd + re) σ = σ := hsS.trans (rfl)
            exact wr_z (b := (scB (100000 * kd + re) σ)) (σ, wy, hp) (by rw [heB]; rfl) rfl (fun _ => heS.symm) hP hS hx hb hr dX8_command_481 hlk
    · have c_70 : (nI kd) = nI 9 := c_70
      refine lv_tableIn (tgt := 482) (off := 412) hx hb dX8_command_70 (by rw [c_70]; decide) (by rw [c_70]; decide) (by rw [c_70]; decide) (by decide) ?_
      have c_70 : kd = 9 := nc_eq (by omega) (by decide) c_70
      have hsB : scB (100000 * kd + re) σ = (decide (re / 1000 % 10 = 0) && (decide (re / 10000 < 8) && !decide (nI (σ (8 + re / 10000)) < nI (re % 1000)))) := by rw [c_70]; exact (sc_m hre).1
      have hsS : scS (100000 * kd + re) σ = (σ) := by rw [c_70]; exact (sc_m hre).2
      refine lv_iload hx hb dX8_command_482 (lv_at hl 7 rfl) ?_
      refine lv_if_ne (tgt := 512) hx hb dX8_command_484 (by decide) (fun c_484 => ?_) (fun c_484 => ?_)
      · have c_484 := (nz_ne c_484 (by omega))
        refine lv_iconst (v := (nI 0)) hx hb dX8_command_512 (by decide) ?_
        have heB : scB (100000 * kd + re) σ = false := hsB.trans (by simp [c_484])
        exact wr_z (b := (scB (100000 * kd + re) σ)) (σ, wy, hp) (by rw [heB]; rfl) rfl (fun h8 => absurd h8 (by rw [heB]; exact Bool.false_ne_true)) hP hS hx hb hr dX8_command_513 hlk
      · have c_484 := (nz_eq c_484 (by omega))
        refine lv_iload_n hx hb dX8_command_487 rfl (lv_at hl 8 rfl) ?_
        refine rd_call (va_runS (As := [.int (nI (re / 10000))]) (rest := []) ⟨hx, hb, hml, hown, hts⟩ (c_X8_isFinder l (nI (re / 10000)) ) ⟨(cB 1 hts wd27_3 wd1_5 wd27_1 rfl rfl (by decide +kernel) ⟨Nat.le_of_ble_eq_true rfl, Nat.le_of_ble_eq_true rfl⟩), hts _ wd27_2⟩ p0 rfl rfl hl.1 rfl (lv_room (Nat.le_of_ble_eq_true rfl)) dX8_command_488 ⟨Nat.zero_le _, Nat.zero_le _⟩) ?_
        show W _ _ _ _ _ _ _ _ _ _ _ _ _ _ _ (F0 mX 491 ls [.int (bI (inR (nI (re / 10000)) (nI 0) (nI 7)))])
        refine ti (show (bI (inR (nI (re / 10000)) (nI 0) (nI 7))) = (bI (decide (re / 10000 ≤ 7))) from (congrArg bI (in_k (by omega) (by decide)))) ?_
        refine lv_if_eq (tgt := 512) hx hb dX8_command_491 (by decide) (fun c_491 => ?_) (fun c_491 => ?_)
        · have c_491 := (bI_eq0.mp c_491)
          have c_491 : ¬ re / 10000 ≤ 7 := of_decide_eq_false c_491
          refine lv_iconst (v := (nI 0)) hx hb dX8_command_512 (by decide) ?_
          have heB : scB (100000 * kd + re) σ = false := hsB.trans (by simp [show ¬ re / 10000 < 8 by omega])
          exact wr_z (b := (scB (100000 * kd + re) σ)) (σ, wy, hp) (by rw [heB]; rfl) rfl (fun h8 => absurd h8 (by rw [heB]; exact Bool.false_ne_true)) hP hS hx hb hr dX8_command_513 hlk
        · have c_491 := (bI_ne0.mp c_491)
          have c_491 : re / 10000 ≤ 7 := of_decide_eq_true c_491
          refine lv_aload_n hx hb dX8_command_494 rfl (lv_at hl 9 rfl) ?_
          refine va_get (D := g) (ci := 6) (v := .ref (ma 3)) (C := RX8) (T := TX8) (N := 13) hx hb hts bgX8 hown hK hP 0 rfl rfl 4 (by decide) (hts _ wd5_22) (fun _ h9 => h9) rfl dX8_command_495 ?_
          refine lv_bipush (v := (nI 8)) hx hb dX8_command_498 (by decide) ?_
          refine lv_iload_n hx hb dX8_command_500 rfl (lv_at hl 8 rfl) ?_
          refine lv_iadd hx hb dX8_command_501 ?_
          refine ti (nI_add 8 (re / 10000)) ?_
          refine va_iald hx hb hK hP 3 0 rfl rfl (vp_in_nI (n := (8 + (re / 10000))) (by omega) (by omega)) dX8_command_502 ?_
          refine ti (show (mS σ) (nI (8 + (re / 10000))).toNatClampNeg = nI (σ (8 + (re / 10000))) from by rw [nI_clamp (by omega)]; rfl) ?_
          refine ti (show (nI (σ (8 + (re / 10000)))) = (nI (σ (8 + (re / 10000)))) from rfl) ?_
          refine lv_iload hx hb dX8_command_503 (lv_at hl 1 rfl) ?_
          refine lv_icmp_lt (tgt := 512) hx hb dX8_command_505 (by decide) (fun c_505 => ?_) (fun c_505 => ?_)
          · skip
            refine lv_iconst (v := (nI 0)) hx hb dX8_command_512 (by decide) ?_
            have heB : scB (100000 * kd + re) σ = false := hsB.trans (by simp [c_505])
            exact wr_z (b := (scB (100000 * kd + re) σ)) (σ, wy, hp) (by rw [heB]; rfl) rfl (fun h8 => absurd h8 (by rw [heB]; exact Bool.false_ne_true)) hP hS hx hb hr dX8_command_513 hlk
          · skip
            refine lv_iconst (v := (nI 1)) hx hb dX8_command_508 (by decide) ?_
            refine lv_goto (tgt := 513) hx hb dX8_command_509 (by decide) ?_
            have heB : scB (100000 * kd + re) σ = true := hsB.trans (by simp [c_484, show re / 10000 < 8 by omega, c_505])
            have heS : scS (100000 * kd + re) σ = σ := hsS.trans (rfl)
            exact wr_z (b := (scB (100000 * kd + re) σ)) (σ, wy, hp) (by rw [heB]; rfl) rfl (fun _ => heS.symm) hP hS hx hb hr dX8_command_513 hlk
