/-! SCRIPTS' COMMANDS AND SIMULATIONS' TURNS: what they answer, what they do. -/
def scB (g : Nat) (σ : Nat → Nat) : Bool :=
  if g / 100000 = 1 then decide (g / 10000 % 10 = 0) && (decide (g / 100 % 100 = 0) && !decide (nI (hoursA σ (nI (g % 100))) = nI NN2))
  else if g / 100000 = 2 then decide (g / 10 % 10 < 8) && (decide (g % 10 = 0) && !decide (nI (sightA σ (nI (g / 10000 % 10)) (nI (g / 100 % 100)) (nI (2 ^ (g / 10 % 10))) (nI 0)) < 0))
  else if g / 100000 = 3 then decide (g % 10 = 0) && !decide (nI (findA σ (nI (g / 10000 % 10)) (nI (g / 1000 % 10)) (nI (g / 10 % 100))) = nI NN2)
  else if g / 100000 = 4 then decide (g % 10 ≤ 1) && !decide (nI (closeA σ (nI (g / 1000 % 100)) (nI (g / 10 % 100)) (decide (g % 10 = 1))) = nI NN2)
  else if g / 100000 = 5 then decide (g / 100 % 100 = 0) && !decide (nI (setA σ (nI (g / 10000 % 10)) (nI (g % 100))) = nI NN2)
  else if g / 100000 = 6 then decide (g % 100 = 0) && (decide (g / 100 % 100 < 12) && ((decide (g / 10000 % 10 < σ 0) && msg σ (g / 10000 % 10)) && cbe σ (g / 10000 % 10) (g / 100 % 100)))
  else if g / 100000 = 7 then decide (g / 10000 % 10 = 0) && (decide (g / 100 % 100 = 0) && decide (ct (frd σ) (σ 1) ≤ g % 100))
  else if g / 100000 = 8 then decide (g / 1000 % 10 = 0) && (decide (g / 10000 % 10 < σ 0) && decide (g % 1000 ≤ dg σ (g / 10000 % 10) 4))
  else if g / 100000 = 9 then decide (g / 1000 % 10 = 0) && (decide (g / 10000 % 10 < 8) && !decide (nI (σ (8 + g / 10000 % 10)) < nI (g % 1000)))
  else false
def scS (g : Nat) (σ : Nat → Nat) : Nat → Nat :=
  if g / 100000 = 1 then (if g / 10000 % 10 = 0 ∧ g / 100 % 100 = 0 then hoursR σ (nI (g % 100)) else σ)
  else if g / 100000 = 2 then (if g / 10 % 10 < 8 ∧ g % 10 = 0 then sightR σ (nI (g / 10000 % 10)) (nI (g / 100 % 100)) (nI (2 ^ (g / 10 % 10))) (nI 0) false else σ)
  else if g / 100000 = 3 then (if g % 10 = 0 then findR σ (nI (g / 10000 % 10)) (nI (g / 1000 % 10)) (nI (g / 10 % 100)) else σ)
  else if g / 100000 = 4 then (if g % 10 ≤ 1 then closeR σ (nI (g / 1000 % 100)) (nI (g / 10 % 100)) (decide (g % 10 = 1)) else σ)
  else if g / 100000 = 5 then (if g / 100 % 100 = 0 then setR σ (nI (g / 10000 % 10)) (nI (g % 100)) else σ)
  else σ
/-- a turn of a simulation -/
def plR (r : Nat) (σ : Nat → Nat) : Nat → Nat :=
  if r % 8 = 0 then loseR σ (nI (1 + r / 8 % 255)) (nI (1 + r / 8 / 256 % 3)) (nI (r / 8 / 1024 % 12)) (nI (1 + r / 8 / 16384 % 500))
  else if r % 8 = 1 ∨ r % 8 = 2 ∨ r % 8 = 3 then sightR σ (nI (r / 8 % 8)) (nI (r / 8 / 8 % 12)) (nI (r / 8 / 128 % 256)) (nI (r / 8 / 32768 % 6)) (decide (r / 8 / 262144 % 2 = 1))
  else if r % 8 = 4 then findR σ (nI (r / 8 % 6)) (nI (r / 8 / 8 % 8)) (nI (r / 8 / 64 % 12))
  else if r % 8 = 5 then closeR σ (nI (r / 8 % 12)) (nI (r / 8 % 12 + (if r / 8 / 16 % 2 = 0 then 1 else 4))) (decide (r / 8 / 64 % 2 = 1))
  else hoursR σ (nI (1 + r / 8 % 30))
theorem in12 {x k n : Nat} (h : n = k + 1) : (decide (0 ≤ x) && decide (x ≤ k)) = decide (x < n) := by
  rw [Bool.eq_iff_iff]
  simp
  omega

set_option maxHeartbeats 4000000 in
set_option maxRecDepth 100000 in
theorem c_X6_doCommand (l : Launch) (g : va_G) (cy : Nat → ClassId) (h hs hp : Nat) (sz : Nat) (tx : Nat → Nat) (ln : Nat) (p : Nat) (lt : Nat) (pt : Nat → Nat) (pn : Nat) (a : Nat → Nat) (σ : Nat → Nat) (b : Nat → Nat → Int32) (bd : Nat) (hwf : WF bd σ) (hbr : BR σ b) (hpn : pn = npt lt) : Met l yX6_doCommand (Cond.code yX6_doCommand cX6_doCommand 2 (some .int) :: wsL_law) ({ frames := 5, cells := 0, slots := 0, locals := 122 } : Room) (va_Pc [.ref h, .ref (a 0)] (pr g cy [(h, .inr (4, [.ref hs, .int (nI ln), .int (nI p), .int (nI lt), .ref hp, .int (nI pn)])), aI cy hs 120 (mS tx), aI cy hp 4 (mS pt), (a 0, .inr (0, [.ref (a 1), .ref (a 4), .ref (a 6), .ref (a 8), .ref (a 9), .int (nI (σ 2)), .int (nI (σ 3)), .int (nI (σ 4)), .int (nI (σ 5)), .int (nI (σ 6)), .int (nI (σ 7))])), (a 1, .inr (2, [.ref (a 2), .ref (a 3), .int (nI (cmk σ))])), aI cy (a 2) 144 (wv σ), aI cy (a 3) 12 (b 1), (a 4, .inr (3, [.int (nI 6), .int (nI 11), .ref (a 5), .int (nI (σ 0))])), aI cy (a 5) 66 (b 2), (a 6, .inr (3, [.int (nI 20), .int (nI 6), .ref (a 7), .int (nI (σ 1))])), aI cy (a 7) 120 (b 3), aI cy (a 8) 8 (mS (pu σ)), aI cy (a 9) 6 (b 5)] sz)) (wr_Q (fun b1 : Nat → Nat → Int32 => (some (.int (nI (doA lt pt σ))))) (fun b1 : Nat → Nat → Int32 => (BR (doR lt pt σ) b1)) (fun b1 : Nat → Nat → Int32 => [(h, .inr (4, [.ref hs, .int (nI ln), .int (nI p), .int (nI lt), .ref hp, .int (nI pn)])), aI cy hs 120 (mS tx), aI cy hp 4 (mS pt), (a 0, .inr (0, [.ref (a 1), .ref (a 4), .ref (a 6), .ref (a 8), .ref (a 9), .int (nI ((doR lt pt σ) 2)), .int (nI ((doR lt pt σ) 3)), .int (nI ((doR lt pt σ) 4)), .int (nI ((doR lt pt σ) 5)), .int (nI ((doR lt pt σ) 6)), .int (nI ((doR lt pt σ) 7))])), (a 1, .inr (2, [.ref (a 2), .ref (a 3), .int (nI (cmk (doR lt pt σ)))])), aI cy (a 2) 144 (wv (doR lt pt σ)), aI cy (a 3) 12 (b1 1), (a 4, .inr (3, [.int (nI 6), .int (nI 11), .ref (a 5), .int (nI ((doR lt pt σ) 0))])), aI cy (a 5) 66 (b1 2), (a 6, .inr (3, [.int (nI 20), .int (nI 6), .ref (a 7), .int (nI ((doR lt pt σ) 1))])), aI cy (a 7) 120 (b1 3), aI cy (a 8) 8 (mS (pu (doR lt pt σ))), aI cy (a 9) 6 (b1 5)]) g (va_A [(h, .inr (4, [.ref hs, .int (nI ln), .int (nI p), .int (nI lt), .ref hp, .int (nI pn)])), aI cy hs 120 (mS tx), aI cy hp 4 (mS pt), (a 0, .inr (0, [.ref (a 1), .ref (a 4), .ref (a 6), .ref (a 8), .ref (a 9), .int (nI (σ 2)), .int (nI (σ 3)), .int (nI (σ 4)), .int (nI (σ 5)), .int (nI (σ 6)), .int (nI (σ 7))])), (a 1, .inr (2, [.ref (a 2), .ref (a 3), .int (nI (cmk σ))])), aI cy (a 2) 144 (wv σ), aI cy (a 3) 12 (b 1), (a 4, .inr (3, [.int (nI 6), .int (nI 11), .ref (a 5), .int (nI (σ 0))])), aI cy (a 5) 66 (b 2), (a 6, .inr (3, [.int (nI 20), .int (nI 6), .ref (a 7), .int (nI (σ 1))])), aI cy (a 7) 120 (b 3), aI cy (a 8) 8 (mS (pu σ)), aI cy (a 9) 6 (b 5)] sz)) 0 0 (va_A [(h, .inr (4, [.ref hs, .int (nI ln), .int (nI p), .int (nI lt), .ref hp, .int (nI pn)])), aI cy hs 120 (mS tx), aI cy hp 4 (mS pt), (a 0, .inr (0, [.ref (a 1), .ref (a 4), .ref (a 6), .ref (a 8), .ref (a 9), .int (nI (σ 2)), .int (nI (σ 3)), .int (nI (σ 4)), .int (nI (σ 5)), .int (nI (σ 6)), .int (nI (σ 7))])), (a 1, .inr (2, [.ref (a 2), .ref (a 3), .int (nI (cmk σ))])), aI cy (a 2) 144 (wv σ), aI cy (a 3) 12 (b 1), (a 4, .inr (3, [.int (nI 6), .int (nI 11), .ref (a 5), .int (nI (σ 0))])), aI cy (a 5) 66 (b 2), (a 6, .inr (3, [.int (nI 20), .int (nI 6), .ref (a 7), .int (nI (σ 1))])), aI cy (a 7) 120 (b 3), aI cy (a 8) 8 (mS (pu σ)), aI cy (a 9) 6 (b 5)] sz) := by
  refine mt_of (cc := cX6_doCommand) (maxL := 2) (ret := (some .int)) (by decide +kernel) (Nat.le_of_ble_eq_true rfl) ?_
  intro pX eX s mX below meth cX ls A hx hb hr hml hown hts hlk hin hsz hAe hA hP hD hK hX hl
  subst hsz
  rw [← hAe]
  clear hAe
  have hl : lv_has ls 2 [(0, .ref h), (1, .ref (a 0))] := hl
  have hS : va_S A s.heap s.heap [] := va_S.rf
  have hn0 := hwf.n0
  have hn1 := hwf.n1
  have hh2 := hwf.h2
  refine lv_aload_n hx hb dX6_doCommand_0 rfl (lv_at hl 0 rfl) ?_
  refine va_get (D := g) (ci := 4) (v := .int (nI lt)) (C := RX6) (T := TX6) (N := 6) hx hb hts bgX6 hown hK hP 0 rfl rfl 3 (by decide) (hts _ wd11_8) (fun _ h9 => h9) rfl dX6_doCommand_1 ?_
  by_cases c_4_100 : (nI lt) = nI 100
  · refine lv_lookup (tgt := 56) (off := 52) hx hb dX6_doCommand_4 rfl (by rw [c_4_100]; decide) (by decide) ?_
    have hpn9 : pn = 4 := by rw [hpn]; unfold npt; rw [if_pos c_4_100]
    refine lv_aload_n hx hb dX6_doCommand_56 rfl (lv_at hl 1 rfl) ?_
    refine lv_aload_n hx hb dX6_doCommand_57 rfl (lv_at hl 0 rfl) ?_
    refine lv_iconst (v := (nI 0)) hx hb dX6_doCommand_58 (by decide) ?_
    refine rd_call (va_runV (As := [.int (nI 0)]) (rest := [.ref (a 0)]) ⟨hx, hb, hml, hown, hts⟩ (c_X6_part l g cy h hs hp s.heap.size tx ln p lt pt pn 0 (by omega) (by omega)) ⟨(cB 1 hts wd12_20 wd2_0 wd12_17 rfl rfl (by decide +kernel) ⟨Nat.le_of_ble_eq_true rfl, Nat.le_of_ble_eq_true rfl⟩), hts _ wd12_18, hts _ wd12_19⟩ (pv hK hP hD hS hA hX [0, 1, 2] rfl rfl 4 0 rfl rfl) rfl rfl hl.1 rfl (lv_room (Nat.le_of_ble_eq_true rfl)) dX6_doCommand_59 ⟨Nat.zero_le _, Nat.zero_le _⟩) ?_
    show W _ _ _ _ _ _ _ _ _ _ _ _ _ _ _ (F0 mX 62 ls [.int (nI (pt 0)), .ref (a 0)])
    refine lv_aload_n hx hb dX6_doCommand_62 rfl (lv_at hl 0 rfl) ?_
    refine lv_iconst (v := (nI 1)) hx hb dX6_doCommand_63 (by decide) ?_
    refine rd_call (va_runV (As := [.int (nI 1)]) (rest := [.int (nI (pt 0)), .ref (a 0)]) ⟨hx, hb, hml, hown, hts⟩ (c_X6_part l g cy h hs hp s.heap.size tx ln p lt pt pn 1 (by omega) (by omega)) ⟨(cB 1 hts wd12_20 wd2_0 wd12_17 rfl rfl (by decide +kernel) ⟨Nat.le_of_ble_eq_true rfl, Nat.le_of_ble_eq_true rfl⟩), hts _ wd12_18, hts _ wd12_19⟩ (pv hK hP hD hS hA hX [0, 1, 2] rfl rfl 4 0 rfl rfl) rfl rfl hl.1 rfl (lv_room (Nat.le_of_ble_eq_true rfl)) dX6_doCommand_64 ⟨Nat.zero_le _, Nat.zero_le _⟩) ?_
    show W _ _ _ _ _ _ _ _ _ _ _ _ _ _ _ (F0 mX 67 ls [.int (nI (pt 1)), .int (nI (pt 0)), .ref (a 0)])
    refine lv_aload_n hx hb dX6_doCommand_67 rfl (lv_at hl 0 rfl) ?_
    refine lv_iconst (v := (nI 2)) hx hb dX6_doCommand_68 (by decide) ?_
    refine rd_call (va_runV (As := [.int (nI 2)]) (rest := [.int (nI (pt 1)), .int (nI (pt 0)), .ref (a 0)]) ⟨hx, hb, hml, hown, hts⟩ (c_X6_part l g cy h hs hp s.heap.size tx ln p lt pt pn 2 (by omega) (by omega)) ⟨(cB 1 hts wd12_20 wd2_0 wd12_17 rfl rfl (by decide +kernel) ⟨Nat.le_of_ble_eq_true rfl, Nat.le_of_ble_eq_true rfl⟩), hts _ wd12_18, hts _ wd12_19⟩ (pv hK hP hD hS hA hX [0, 1, 2] rfl rfl 4 0 rfl rfl) rfl rfl hl.1 rfl (lv_room (Nat.le_of_ble_eq_true rfl)) dX6_doCommand_69 ⟨Nat.zero_le _, Nat.zero_le _⟩) ?_
    show W _ _ _ _ _ _ _ _ _ _ _ _ _ _ _ (F0 mX 72 ls [.int (nI (pt 2)), .int (nI (pt 1)), .int (nI (pt 0)), .ref (a 0)])
    refine lv_aload_n hx hb dX6_doCommand_72 rfl (lv_at hl 0 rfl) ?_
    refine lv_iconst (v := (nI 3)) hx hb dX6_doCommand_73 (by decide) ?_
    refine rd_call (va_runV (As := [.int (nI 3)]) (rest := [.int (nI (pt 2)), .int (nI (pt 1)), .int (nI (pt 0)), .ref (a 0)]) ⟨hx, hb, hml, hown, hts⟩ (c_X6_part l g cy h hs hp s.heap.size tx ln p lt pt pn 3 (by omega) (by omega)) ⟨(cB 1 hts wd12_20 wd2_0 wd12_17 rfl rfl (by decide +kernel) ⟨Nat.le_of_ble_eq_true rfl, Nat.le_of_ble_eq_true rfl⟩), hts _ wd12_18, hts _ wd12_19⟩ (pv hK hP hD hS hA hX [0, 1, 2] rfl rfl 4 0 rfl rfl) rfl rfl hl.1 rfl (lv_room (Nat.le_of_ble_eq_true rfl)) dX6_doCommand_74 ⟨Nat.zero_le _, Nat.zero_le _⟩) ?_
    show W _ _ _ _ _ _ _ _ _ _ _ _ _ _ _ (F0 mX 77 ls [.int (nI (pt 3)), .int (nI (pt 2)), .int (nI (pt 1)), .int (nI (pt 0)), .ref (a 0)])
    refine wr_call (wc := [(a 0, .inr (0, [.ref (a 1), .ref (a 4), .ref (a 6), .ref (a 8), .ref (a 9), .int (nI (σ 2)), .int (nI (σ 3)), .int (nI (σ 4)), .int (nI (σ 5)), .int (nI (σ 6)), .int (nI (σ 7))])), (a 1, .inr (2, [.ref (a 2), .ref (a 3), .int (nI (cmk σ))])), aI cy (a 2) 144 (wv σ), aI cy (a 3) 12 (b 1), (a 4, .inr (3, [.int (nI 6), .int (nI 11), .ref (a 5), .int (nI (σ 0))])), aI cy (a 5) 66 (b 2), (a 6, .inr (3, [.int (nI 20), .int (nI 6), .ref (a 7), .int (nI (σ 1))])), aI cy (a 7) 120 (b 3), aI cy (a 8) 8 (mS (pu σ)), aI cy (a 9) 6 (b 5)]) (va_runV (As := [.int (nI (pt 0)), .int (nI (pt 1)), .int (nI (pt 2)), .int (nI (pt 3))]) (rest := []) ⟨hx, hb, hml, hown, hts⟩ (c_X0_loseDog l g cy  s.heap.size a σ b bd (nI (pt 0)) (nI (pt 1)) (nI (pt 2)) (nI (pt 3)) hwf hbr) ⟨(cB 4 hts wd8_17 wd1_12 wd12_21 rfl rfl (by decide +kernel) ⟨Nat.le_of_ble_eq_true rfl, Nat.le_of_ble_eq_true rfl⟩), hts _ wd8_15, hts _ wd8_16⟩ (pv hK hP hD hS hA hX [3, 4, 5, 6, 7, 8, 9, 10, 11, 12] rfl rfl 0 3 rfl rfl) rfl rfl hl.1 rfl (lv_room (Nat.le_of_ble_eq_true rfl)) dX6_doCommand_77 ⟨Nat.zero_le _, Nat.zero_le _⟩) hP hD hS hA [3, 4, 5, 6, 7, 8, 9, 10, 11, 12] rfl rfl (fun _ => (rfl : ([a 0, a 1, a 2, a 3, a 4, a 5, a 6, a 7, a 8, a 9] : List Nat) = [a 0, a 1, a 2, a 3, a 4, a 5, a 6, a 7, a 8, a 9])) ?_
    rintro b1_77 H locs hbr_77 hP hD hS
    have hP : va_P g vwCl [(h, .inr (4, [.ref hs, .int (nI ln), .int (nI p), .int (nI lt), .ref hp, .int (nI pn)])), aI cy hs 120 (mS tx), aI cy hp 4 (mS pt), (a 0, .inr (0, [.ref (a 1), .ref (a 4), .ref (a 6), .ref (a 8), .ref (a 9), .int (nI ((loseR σ (nI (pt 0)) (nI (pt 1)) (nI (pt 2)) (nI (pt 3))) 2)), .int (nI ((loseR σ (nI (pt 0)) (nI (pt 1)) (nI (pt 2)) (nI (pt 3))) 3)), .int (nI ((loseR σ (nI (pt 0)) (nI (pt 1)) (nI (pt 2)) (nI (pt 3))) 4)), .int (nI ((loseR σ (nI (pt 0)) (nI (pt 1)) (nI (pt 2)) (nI (pt 3))) 5)), .int (nI ((loseR σ (nI (pt 0)) (nI (pt 1)) (nI (pt 2)) (nI (pt 3))) 6)), .int (nI ((loseR σ (nI (pt 0)) (nI (pt 1)) (nI (pt 2)) (nI (pt 3))) 7))])), (a 1, .inr (2, [.ref (a 2), .ref (a 3), .int (nI (cmk (loseR σ (nI (pt 0)) (nI (pt 1)) (nI (pt 2)) (nI (pt 3)))))])), aI cy (a 2) 144 (wv (loseR σ (nI (pt 0)) (nI (pt 1)) (nI (pt 2)) (nI (pt 3)))), aI cy (a 3) 12 (b1_77 1), (a 4, .inr (3, [.int (nI 6), .int (nI 11), .ref (a 5), .int (nI ((loseR σ (nI (pt 0)) (nI (pt 1)) (nI (pt 2)) (nI (pt 3))) 0))])), aI cy (a 5) 66 (b1_77 2), (a 6, .inr (3, [.int (nI 20), .int (nI 6), .ref (a 7), .int (nI ((loseR σ (nI (pt 0)) (nI (pt 1)) (nI (pt 2)) (nI (pt 3))) 1))])), aI cy (a 7) 120 (b1_77 3), aI cy (a 8) 8 (mS (pu (loseR σ (nI (pt 0)) (nI (pt 1)) (nI (pt 2)) (nI (pt 3))))), aI cy (a 9) 6 (b1_77 5)] H := hP
    have hD : va_D A [(h, .inr (4, [.ref hs, .int (nI ln), .int (nI p), .int (nI lt), .ref hp, .int (nI pn)])), aI cy hs 120 (mS tx), aI cy hp 4 (mS pt), (a 0, .inr (0, [.ref (a 1), .ref (a 4), .ref (a 6), .ref (a 8), .ref (a 9), .int (nI ((loseR σ (nI (pt 0)) (nI (pt 1)) (nI (pt 2)) (nI (pt 3))) 2)), .int (nI ((loseR σ (nI (pt 0)) (nI (pt 1)) (nI (pt 2)) (nI (pt 3))) 3)), .int (nI ((loseR σ (nI (pt 0)) (nI (pt 1)) (nI (pt 2)) (nI (pt 3))) 4)), .int (nI ((loseR σ (nI (pt 0)) (nI (pt 1)) (nI (pt 2)) (nI (pt 3))) 5)), .int (nI ((loseR σ (nI (pt 0)) (nI (pt 1)) (nI (pt 2)) (nI (pt 3))) 6)), .int (nI ((loseR σ (nI (pt 0)) (nI (pt 1)) (nI (pt 2)) (nI (pt 3))) 7))])), (a 1, .inr (2, [.ref (a 2), .ref (a 3), .int (nI (cmk (loseR σ (nI (pt 0)) (nI (pt 1)) (nI (pt 2)) (nI (pt 3)))))])), aI cy (a 2) 144 (wv (loseR σ (nI (pt 0)) (nI (pt 1)) (nI (pt 2)) (nI (pt 3)))), aI cy (a 3) 12 (b1_77 1), (a 4, .inr (3, [.int (nI 6), .int (nI 11), .ref (a 5), .int (nI ((loseR σ (nI (pt 0)) (nI (pt 1)) (nI (pt 2)) (nI (pt 3))) 0))])), aI cy (a 5) 66 (b1_77 2), (a 6, .inr (3, [.int (nI 20), .int (nI 6), .ref (a 7), .int (nI ((loseR σ (nI (pt 0)) (nI (pt 1)) (nI (pt 2)) (nI (pt 3))) 1))])), aI cy (a 7) 120 (b1_77 3), aI cy (a 8) 8 (mS (pu (loseR σ (nI (pt 0)) (nI (pt 1)) (nI (pt 2)) (nI (pt 3))))), aI cy (a 9) 6 (b1_77 5)] := hD
    have hbr_77 : BR (loseR σ (nI (pt 0)) (nI (pt 1)) (nI (pt 2)) (nI (pt 3))) b1_77 := hbr_77
    show W _ _ _ _ _ _ _ _ _ _ _ _ _ _ _ (F0 mX 80 ls [.int (nI (if fLose σ (nI (pt 0)) (nI (pt 1)) (nI (pt 2)) (nI (pt 3)) = 0 then σ 0 else NN2))])
    have heS : doR lt pt σ = loseR σ (nI (pt 0)) (nI (pt 1)) (nI (pt 2)) (nI (pt 3)) := by unfold doR; rw [if_pos c_4_100]
    have heA : doA lt pt σ = if fLose σ (nI (pt 0)) (nI (pt 1)) (nI (pt 2)) (nI (pt 3)) = 0 then σ 0 else NN2 := by unfold doA; rw [if_pos c_4_100]
    exact wr_i b1_77 (by rw [heA]) (by rw [heS]; exact hbr_77) (by rw [heS]; exact hP) hS hx hb hr dX6_doCommand_80 hlk
  · skip
    by_cases c_4_102 : (nI lt) = nI 102
    · refine lv_lookup (tgt := 116) (off := 112) hx hb dX6_doCommand_4 rfl (by rw [c_4_102]; decide) (by decide) ?_
      have hpn9 : pn = 3 := by rw [hpn]; unfold npt; rw [if_neg c_4_100, if_pos c_4_102]
      refine lv_aload_n hx hb dX6_doCommand_116 rfl (lv_at hl 1 rfl) ?_
      refine lv_aload_n hx hb dX6_doCommand_117 rfl (lv_at hl 0 rfl) ?_
      refine lv_iconst (v := (nI 0)) hx hb dX6_doCommand_118 (by decide) ?_
      refine rd_call (va_runV (As := [.int (nI 0)]) (rest := [.ref (a 0)]) ⟨hx, hb, hml, hown, hts⟩ (c_X6_part l g cy h hs hp s.heap.size tx ln p lt pt pn 0 (by omega) (by omega)) ⟨(cB 1 hts wd12_20 wd2_0 wd12_17 rfl rfl (by decide +kernel) ⟨Nat.le_of_ble_eq_true rfl, Nat.le_of_ble_eq_true rfl⟩), hts _ wd12_18, hts _ wd12_19⟩ (pv hK hP hD hS hA hX [0, 1, 2] rfl rfl 4 0 rfl rfl) rfl rfl hl.1 rfl (lv_room (Nat.le_of_ble_eq_true rfl)) dX6_doCommand_119 ⟨Nat.zero_le _, Nat.zero_le _⟩) ?_
      show W _ _ _ _ _ _ _ _ _ _ _ _ _ _ _ (F0 mX 122 ls [.int (nI (pt 0)), .ref (a 0)])
      refine lv_aload_n hx hb dX6_doCommand_122 rfl (lv_at hl 0 rfl) ?_
      refine lv_iconst (v := (nI 1)) hx hb dX6_doCommand_123 (by decide) ?_
      refine rd_call (va_runV (As := [.int (nI 1)]) (rest := [.int (nI (pt 0)), .ref (a 0)]) ⟨hx, hb, hml, hown, hts⟩ (c_X6_part l g cy h hs hp s.heap.size tx ln p lt pt pn 1 (by omega) (by omega)) ⟨(cB 1 hts wd12_20 wd2_0 wd12_17 rfl rfl (by decide +kernel) ⟨Nat.le_of_ble_eq_true rfl, Nat.le_of_ble_eq_true rfl⟩), hts _ wd12_18, hts _ wd12_19⟩ (pv hK hP hD hS hA hX [0, 1, 2] rfl rfl 4 0 rfl rfl) rfl rfl hl.1 rfl (lv_room (Nat.le_of_ble_eq_true rfl)) dX6_doCommand_124 ⟨Nat.zero_le _, Nat.zero_le _⟩) ?_
      show W _ _ _ _ _ _ _ _ _ _ _ _ _ _ _ (F0 mX 127 ls [.int (nI (pt 1)), .int (nI (pt 0)), .ref (a 0)])
      refine lv_aload_n hx hb dX6_doCommand_127 rfl (lv_at hl 0 rfl) ?_
      refine lv_iconst (v := (nI 2)) hx hb dX6_doCommand_128 (by decide) ?_
      refine rd_call (va_runV (As := [.int (nI 2)]) (rest := [.int (nI (pt 1)), .int (nI (pt 0)), .ref (a 0)]) ⟨hx, hb, hml, hown, hts⟩ (c_X6_part l g cy h hs hp s.heap.size tx ln p lt pt pn 2 (by omega) (by omega)) ⟨(cB 1 hts wd12_20 wd2_0 wd12_17 rfl rfl (by decide +kernel) ⟨Nat.le_of_ble_eq_true rfl, Nat.le_of_ble_eq_true rfl⟩), hts _ wd12_18, hts _ wd12_19⟩ (pv hK hP hD hS hA hX [0, 1, 2] rfl rfl 4 0 rfl rfl) rfl rfl hl.1 rfl (lv_room (Nat.le_of_ble_eq_true rfl)) dX6_doCommand_129 ⟨Nat.zero_le _, Nat.zero_le _⟩) ?_
      show W _ _ _ _ _ _ _ _ _ _ _ _ _ _ _ (F0 mX 132 ls [.int (nI (pt 2)), .int (nI (pt 1)), .int (nI (pt 0)), .ref (a 0)])
      refine wr_call (wc := [(a 0, .inr (0, [.ref (a 1), .ref (a 4), .ref (a 6), .ref (a 8), .ref (a 9), .int (nI (σ 2)), .int (nI (σ 3)), .int (nI (σ 4)), .int (nI (σ 5)), .int (nI (σ 6)), .int (nI (σ 7))])), (a 1, .inr (2, [.ref (a 2), .ref (a 3), .int (nI (cmk σ))])), aI cy (a 2) 144 (wv σ), aI cy (a 3) 12 (b 1), (a 4, .inr (3, [.int (nI 6), .int (nI 11), .ref (a 5), .int (nI (σ 0))])), aI cy (a 5) 66 (b 2), (a 6, .inr (3, [.int (nI 20), .int (nI 6), .ref (a 7), .int (nI (σ 1))])), aI cy (a 7) 120 (b 3), aI cy (a 8) 8 (mS (pu σ)), aI cy (a 9) 6 (b 5)]) (va_runV (As := [.int (nI (pt 0)), .int (nI (pt 1)), .int (nI (pt 2))]) (rest := []) ⟨hx, hb, hml, hown, hts⟩ (c_X0_findDog l g cy  s.heap.size a σ b bd (nI (pt 0)) (nI (pt 1)) (nI (pt 2)) hwf hbr) ⟨(cB 3 hts wd14_18 wd1_12 wd14_15 rfl rfl (by decide +kernel) ⟨Nat.le_of_ble_eq_true rfl, Nat.le_of_ble_eq_true rfl⟩), hts _ wd14_16, hts _ wd14_17⟩ (pv hK hP hD hS hA hX [3, 4, 5, 6, 7, 8, 9, 10, 11, 12] rfl rfl 0 3 rfl rfl) rfl rfl hl.1 rfl (lv_room (Nat.le_of_ble_eq_true rfl)) dX6_doCommand_132 ⟨Nat.zero_le _, Nat.zero_le _⟩) hP hD hS hA [3, 4, 5, 6, 7, 8, 9, 10, 11, 12] rfl rfl (fun _ => (rfl : ([a 0, a 1, a 2, a 3, a 4, a 5, a 6, a 7, a 8, a 9] : List Nat) = [a 0, a 1, a 2, a 3, a 4, a 5, a 6, a 7, a 8, a 9])) ?_
      rintro b1_132 H locs hbr_132 hP hD hS
      have hP : va_P g vwCl [(h, .inr (4, [.ref hs, .int (nI ln), .int (nI p), .int (nI lt), .ref hp, .int (nI pn)])), aI cy hs 120 (mS tx), aI cy hp 4 (mS pt), (a 0, .inr (0, [.ref (a 1), .ref (a 4), .ref (a 6), .ref (a 8), .ref (a 9), .int (nI ((findR σ (nI (pt 0)) (nI (pt 1)) (nI (pt 2))) 2)), .int (nI ((findR σ (nI (pt 0)) (nI (pt 1)) (nI (pt 2))) 3)), .int (nI ((findR σ (nI (pt 0)) (nI (pt 1)) (nI (pt 2))) 4)), .int (nI ((findR σ (nI (pt 0)) (nI (pt 1)) (nI (pt 2))) 5)), .int (nI ((findR σ (nI (pt 0)) (nI (pt 1)) (nI (pt 2))) 6)), .int (nI ((findR σ (nI (pt 0)) (nI (pt 1)) (nI (pt 2))) 7))])), (a 1, .inr (2, [.ref (a 2), .ref (a 3), .int (nI (cmk (findR σ (nI (pt 0)) (nI (pt 1)) (nI (pt 2)))))])), aI cy (a 2) 144 (wv (findR σ (nI (pt 0)) (nI (pt 1)) (nI (pt 2)))), aI cy (a 3) 12 (b1_132 1), (a 4, .inr (3, [.int (nI 6), .int (nI 11), .ref (a 5), .int (nI ((findR σ (nI (pt 0)) (nI (pt 1)) (nI (pt 2))) 0))])), aI cy (a 5) 66 (b1_132 2), (a 6, .inr (3, [.int (nI 20), .int (nI 6), .ref (a 7), .int (nI ((findR σ (nI (pt 0)) (nI (pt 1)) (nI (pt 2))) 1))])), aI cy (a 7) 120 (b1_132 3), aI cy (a 8) 8 (mS (pu (findR σ (nI (pt 0)) (nI (pt 1)) (nI (pt 2))))), aI cy (a 9) 6 (b1_132 5)] H := hP
      have hD : va_D A [(h, .inr (4, [.ref hs, .int (nI ln), .int (nI p), .int (nI lt), .ref hp, .int (nI pn)])), aI cy hs 120 (mS tx), aI cy hp 4 (mS pt), (a 0, .inr (0, [.ref (a 1), .ref (a 4), .ref (a 6), .ref (a 8), .ref (a 9), .int (nI ((findR σ (nI (pt 0)) (nI (pt 1)) (nI (pt 2))) 2)), .int (nI ((findR σ (nI (pt 0)) (nI (pt 1)) (nI (pt 2))) 3)), .int (nI ((findR σ (nI (pt 0)) (nI (pt 1)) (nI (pt 2))) 4)), .int (nI ((findR σ (nI (pt 0)) (nI (pt 1)) (nI (pt 2))) 5)), .int (nI ((findR σ (nI (pt 0)) (nI (pt 1)) (nI (pt 2))) 6)), .int (nI ((findR σ (nI (pt 0)) (nI (pt 1)) (nI (pt 2))) 7))])), (a 1, .inr (2, [.ref (a 2), .ref (a 3), .int (nI (cmk (findR σ (nI (pt 0)) (nI (pt 1)) (nI (pt 2)))))])), aI cy (a 2) 144 (wv (findR σ (nI (pt 0)) (nI (pt 1)) (nI (pt 2)))), aI cy (a 3) 12 (b1_132 1), (a 4, .inr (3, [.int (nI 6), .int (nI 11), .ref (a 5), .int (nI ((findR σ (nI (pt 0)) (nI (pt 1)) (nI (pt 2))) 0))])), aI cy (a 5) 66 (b1_132 2), (a 6, .inr (3, [.int (nI 20), .int (nI 6), .ref (a 7), .int (nI ((findR σ (nI (pt 0)) (nI (pt 1)) (nI (pt 2))) 1))])), aI cy (a 7) 120 (b1_132 3), aI cy (a 8) 8 (mS (pu (findR σ (nI (pt 0)) (nI (pt 1)) (nI (pt 2))))), aI cy (a 9) 6 (b1_132 5)] := hD
      have hbr_132 : BR (findR σ (nI (pt 0)) (nI (pt 1)) (nI (pt 2))) b1_132 := hbr_132
      show W _ _ _ _ _ _ _ _ _ _ _ _ _ _ _ (F0 mX 135 ls [.int (nI (findA σ (nI (pt 0)) (nI (pt 1)) (nI (pt 2))))])
      have heS : doR lt pt σ = findR σ (nI (pt 0)) (nI (pt 1)) (nI (pt 2)) := by unfold doR; rw [if_neg c_4_100, if_pos c_4_102]
      have heA : doA lt pt σ = findA σ (nI (pt 0)) (nI (pt 1)) (nI (pt 2)) := by unfold doA; rw [if_neg c_4_100, if_pos c_4_102]
      exact wr_i b1_132 (by rw [heA]) (by rw [heS]; exact hbr_132) (by rw [heS]; exact hP) hS hx hb hr dX6_doCommand_135 hlk
    · skip
      by_cases c_4_104 : (nI lt) = nI 104
      · refine lv_lookup (tgt := 165) (off := 161) hx hb dX6_doCommand_4 rfl (by rw [c_4_104]; decide) (by decide) ?_
        have hpn9 : pn = 1 := by rw [hpn]; unfold npt; rw [if_neg c_4_100, if_neg c_4_102, if_pos c_4_104]
        refine lv_aload_n hx hb dX6_doCommand_165 rfl (lv_at hl 1 rfl) ?_
        refine lv_aload_n hx hb dX6_doCommand_166 rfl (lv_at hl 0 rfl) ?_
        refine lv_iconst (v := (nI 0)) hx hb dX6_doCommand_167 (by decide) ?_
        refine rd_call (va_runV (As := [.int (nI 0)]) (rest := [.ref (a 0)]) ⟨hx, hb, hml, hown, hts⟩ (c_X6_part l g cy h hs hp s.heap.size tx ln p lt pt pn 0 (by omega) (by omega)) ⟨(cB 1 hts wd12_20 wd2_0 wd12_17 rfl rfl (by decide +kernel) ⟨Nat.le_of_ble_eq_true rfl, Nat.le_of_ble_eq_true rfl⟩), hts _ wd12_18, hts _ wd12_19⟩ (pv hK hP hD hS hA hX [0, 1, 2] rfl rfl 4 0 rfl rfl) rfl rfl hl.1 rfl (lv_room (Nat.le_of_ble_eq_true rfl)) dX6_doCommand_168 ⟨Nat.zero_le _, Nat.zero_le _⟩) ?_
        show W _ _ _ _ _ _ _ _ _ _ _ _ _ _ _ (F0 mX 171 ls [.int (nI (pt 0)), .ref (a 0)])
        refine wr_call (wc := [(a 0, .inr (0, [.ref (a 1), .ref (a 4), .ref (a 6), .ref (a 8), .ref (a 9), .int (nI (σ 2)), .int (nI (σ 3)), .int (nI (σ 4)), .int (nI (σ 5)), .int (nI (σ 6)), .int (nI (σ 7))])), (a 1, .inr (2, [.ref (a 2), .ref (a 3), .int (nI (cmk σ))])), aI cy (a 2) 144 (wv σ), aI cy (a 3) 12 (b 1), (a 4, .inr (3, [.int (nI 6), .int (nI 11), .ref (a 5), .int (nI (σ 0))])), aI cy (a 5) 66 (b 2), (a 6, .inr (3, [.int (nI 20), .int (nI 6), .ref (a 7), .int (nI (σ 1))])), aI cy (a 7) 120 (b 3), aI cy (a 8) 8 (mS (pu σ)), aI cy (a 9) 6 (b 5)]) (va_runV (As := [.int (nI (pt 0))]) (rest := []) ⟨hx, hb, hml, hown, hts⟩ (c_X0_passHours l g cy  s.heap.size a σ b bd (nI (pt 0)) hwf hbr) ⟨(cB 1 hts wd17_21 wd1_12 wd17_18 rfl rfl (by decide +kernel) ⟨Nat.le_of_ble_eq_true rfl, Nat.le_of_ble_eq_true rfl⟩), hts _ wd17_19, hts _ wd17_20⟩ (pv hK hP hD hS hA hX [3, 4, 5, 6, 7, 8, 9, 10, 11, 12] rfl rfl 0 3 rfl rfl) rfl rfl hl.1 rfl (lv_room (Nat.le_of_ble_eq_true rfl)) dX6_doCommand_171 ⟨Nat.zero_le _, Nat.zero_le _⟩) hP hD hS hA [3, 4, 5, 6, 7, 8, 9, 10, 11, 12] rfl rfl (fun _ => (rfl : ([a 0, a 1, a 2, a 3, a 4, a 5, a 6, a 7, a 8, a 9] : List Nat) = [a 0, a 1, a 2, a 3, a 4, a 5, a 6, a 7, a 8, a 9])) ?_
        rintro b1_171 H locs hbr_171 hP hD hS
        have hP : va_P g vwCl [(h, .inr (4, [.ref hs, .int (nI ln), .int (nI p), .int (nI lt), .ref hp, .int (nI pn)])), aI cy hs 120 (mS tx), aI cy hp 4 (mS pt), (a 0, .inr (0, [.ref (a 1), .ref (a 4), .ref (a 6), .ref (a 8), .ref (a 9), .int (nI ((hoursR σ (nI (pt 0))) 2)), .int (nI ((hoursR σ (nI (pt 0))) 3)), .int (nI ((hoursR σ (nI (pt 0))) 4)), .int (nI ((hoursR σ (nI (pt 0))) 5)), .int (nI ((hoursR σ (nI (pt 0))) 6)), .int (nI ((hoursR σ (nI (pt 0))) 7))])), (a 1, .inr (2, [.ref (a 2), .ref (a 3), .int (nI (cmk (hoursR σ (nI (pt 0)))))])), aI cy (a 2) 144 (wv (hoursR σ (nI (pt 0)))), aI cy (a 3) 12 (b1_171 1), (a 4, .inr (3, [.int (nI 6), .int (nI 11), .ref (a 5), .int (nI ((hoursR σ (nI (pt 0))) 0))])), aI cy (a 5) 66 (b1_171 2), (a 6, .inr (3, [.int (nI 20), .int (nI 6), .ref (a 7), .int (nI ((hoursR σ (nI (pt 0))) 1))])), aI cy (a 7) 120 (b1_171 3), aI cy (a 8) 8 (mS (pu (hoursR σ (nI (pt 0))))), aI cy (a 9) 6 (b1_171 5)] H := hP
        have hD : va_D A [(h, .inr (4, [.ref hs, .int (nI ln), .int (nI p), .int (nI lt), .ref hp, .int (nI pn)])), aI cy hs 120 (mS tx), aI cy hp 4 (mS pt), (a 0, .inr (0, [.ref (a 1), .ref (a 4), .ref (a 6), .ref (a 8), .ref (a 9), .int (nI ((hoursR σ (nI (pt 0))) 2)), .int (nI ((hoursR σ (nI (pt 0))) 3)), .int (nI ((hoursR σ (nI (pt 0))) 4)), .int (nI ((hoursR σ (nI (pt 0))) 5)), .int (nI ((hoursR σ (nI (pt 0))) 6)), .int (nI ((hoursR σ (nI (pt 0))) 7))])), (a 1, .inr (2, [.ref (a 2), .ref (a 3), .int (nI (cmk (hoursR σ (nI (pt 0)))))])), aI cy (a 2) 144 (wv (hoursR σ (nI (pt 0)))), aI cy (a 3) 12 (b1_171 1), (a 4, .inr (3, [.int (nI 6), .int (nI 11), .ref (a 5), .int (nI ((hoursR σ (nI (pt 0))) 0))])), aI cy (a 5) 66 (b1_171 2), (a 6, .inr (3, [.int (nI 20), .int (nI 6), .ref (a 7), .int (nI ((hoursR σ (nI (pt 0))) 1))])), aI cy (a 7) 120 (b1_171 3), aI cy (a 8) 8 (mS (pu (hoursR σ (nI (pt 0))))), aI cy (a 9) 6 (b1_171 5)] := hD
        have hbr_171 : BR (hoursR σ (nI (pt 0))) b1_171 := hbr_171
        show W _ _ _ _ _ _ _ _ _ _ _ _ _ _ _ (F0 mX 174 ls [.int (nI (hoursA σ (nI (pt 0))))])
        have heS : doR lt pt σ = hoursR σ (nI (pt 0)) := by unfold doR; rw [if_neg c_4_100, if_neg c_4_102, if_pos c_4_104]
        have heA : doA lt pt σ = hoursA σ (nI (pt 0)) := by unfold doA; rw [if_neg c_4_100, if_neg c_4_102, if_pos c_4_104]
        exact wr_i b1_171 (by rw [heA]) (by rw [heS]; exact hbr_171) (by rw [heS]; exact hP) hS hx hb hr dX6_doCommand_174 hlk
      · skip
        by_cases c_4_115 : (nI lt) = nI 115
        · refine lv_lookup (tgt := 81) (off := 77) hx hb dX6_doCommand_4 rfl (by rw [c_4_115]; decide) (by decide) ?_
          have hpn9 : pn = 4 := by rw [hpn]; unfold npt; rw [if_neg c_4_100, if_neg c_4_102, if_neg c_4_104, if_pos c_4_115]
          refine lv_aload_n hx hb dX6_doCommand_81 rfl (lv_at hl 1 rfl) ?_
          refine lv_aload_n hx hb dX6_doCommand_82 rfl (lv_at hl 0 rfl) ?_
          refine lv_iconst (v := (nI 0)) hx hb dX6_doCommand_83 (by decide) ?_
          refine rd_call (va_runV (As := [.int (nI 0)]) (rest := [.ref (a 0)]) ⟨hx, hb, hml, hown, hts⟩ (c_X6_part l g cy h hs hp s.heap.size tx ln p lt pt pn 0 (by omega) (by omega)) ⟨(cB 1 hts wd12_20 wd2_0 wd12_17 rfl rfl (by decide +kernel) ⟨Nat.le_of_ble_eq_true rfl, Nat.le_of_ble_eq_true rfl⟩), hts _ wd12_18, hts _ wd12_19⟩ (pv hK hP hD hS hA hX [0, 1, 2] rfl rfl 4 0 rfl rfl) rfl rfl hl.1 rfl (lv_room (Nat.le_of_ble_eq_true rfl)) dX6_doCommand_84 ⟨Nat.zero_le _, Nat.zero_le _⟩) ?_
          show W _ _ _ _ _ _ _ _ _ _ _ _ _ _ _ (F0 mX 87 ls [.int (nI (pt 0)), .ref (a 0)])
          refine lv_aload_n hx hb dX6_doCommand_87 rfl (lv_at hl 0 rfl) ?_
          refine lv_iconst (v := (nI 1)) hx hb dX6_doCommand_88 (by decide) ?_
          refine rd_call (va_runV (As := [.int (nI 1)]) (rest := [.int (nI (pt 0)), .ref (a 0)]) ⟨hx, hb, hml, hown, hts⟩ (c_X6_part l g cy h hs hp s.heap.size tx ln p lt pt pn 1 (by omega) (by omega)) ⟨(cB 1 hts wd12_20 wd2_0 wd12_17 rfl rfl (by decide +kernel) ⟨Nat.le_of_ble_eq_true rfl, Nat.le_of_ble_eq_true rfl⟩), hts _ wd12_18, hts _ wd12_19⟩ (pv hK hP hD hS hA hX [0, 1, 2] rfl rfl 4 0 rfl rfl) rfl rfl hl.1 rfl (lv_room (Nat.le_of_ble_eq_true rfl)) dX6_doCommand_89 ⟨Nat.zero_le _, Nat.zero_le _⟩) ?_
          show W _ _ _ _ _ _ _ _ _ _ _ _ _ _ _ (F0 mX 92 ls [.int (nI (pt 1)), .int (nI (pt 0)), .ref (a 0)])
          refine lv_aload_n hx hb dX6_doCommand_92 rfl (lv_at hl 0 rfl) ?_
          refine lv_iconst (v := (nI 2)) hx hb dX6_doCommand_93 (by decide) ?_
          refine rd_call (va_runV (As := [.int (nI 2)]) (rest := [.int (nI (pt 1)), .int (nI (pt 0)), .ref (a 0)]) ⟨hx, hb, hml, hown, hts⟩ (c_X6_part l g cy h hs hp s.heap.size tx ln p lt pt pn 2 (by omega) (by omega)) ⟨(cB 1 hts wd12_20 wd2_0 wd12_17 rfl rfl (by decide +kernel) ⟨Nat.le_of_ble_eq_true rfl, Nat.le_of_ble_eq_true rfl⟩), hts _ wd12_18, hts _ wd12_19⟩ (pv hK hP hD hS hA hX [0, 1, 2] rfl rfl 4 0 rfl rfl) rfl rfl hl.1 rfl (lv_room (Nat.le_of_ble_eq_true rfl)) dX6_doCommand_94 ⟨Nat.zero_le _, Nat.zero_le _⟩) ?_
          show W _ _ _ _ _ _ _ _ _ _ _ _ _ _ _ (F0 mX 97 ls [.int (nI (pt 2)), .int (nI (pt 1)), .int (nI (pt 0)), .ref (a 0)])
          refine lv_iconst (v := (nI 0)) hx hb dX6_doCommand_97 (by decide) ?_
          refine jn_i (pcj := 112) (ls := ls) (st := [.int (nI 0), .int (nI (pt 2)), .int (nI (pt 1)), .int (nI (pt 0)), .ref (a 0)]) (fun v9 => v9 = (bI (decide (nI (pt 3) = nI 1)))) ?_ (fun jn112 => ?_)
          · intro v9 hv9
            subst hv9
            refine wr_call (wc := [(a 0, .inr (0, [.ref (a 1), .ref (a 4), .ref (a 6), .ref (a 8), .ref (a 9), .int (nI (σ 2)), .int (nI (σ 3)), .int (nI (σ 4)), .int (nI (σ 5)), .int (nI (σ 6)), .int (nI (σ 7))])), (a 1, .inr (2, [.ref (a 2), .ref (a 3), .int (nI (cmk σ))])), aI cy (a 2) 144 (wv σ), aI cy (a 3) 12 (b 1), (a 4, .inr (3, [.int (nI 6), .int (nI 11), .ref (a 5), .int (nI (σ 0))])), aI cy (a 5) 66 (b 2), (a 6, .inr (3, [.int (nI 20), .int (nI 6), .ref (a 7), .int (nI (σ 1))])), aI cy (a 7) 120 (b 3), aI cy (a 8) 8 (mS (pu σ)), aI cy (a 9) 6 (b 5)]) (va_runV (As := [.int (nI (pt 0)), .int (nI (pt 1)), .int (nI (pt 2)), .int (nI 0), .int (bI (decide (nI (pt 3) = nI 1)))]) (rest := []) ⟨hx, hb, hml, hown, hts⟩ (c_X0_tellSighting l g cy  s.heap.size a σ b bd (nI (pt 0)) (nI (pt 1)) (nI (pt 2)) (nI 0) (decide (nI (pt 3) = nI 1)) hwf hbr) ⟨(cB 5 hts wd13_1 wd1_12 wd12_22 rfl rfl (by decide +kernel) ⟨Nat.le_of_ble_eq_true rfl, Nat.le_of_ble_eq_true rfl⟩), hts _ wd12_23, hts _ wd13_0⟩ (pv hK hP hD hS hA hX [3, 4, 5, 6, 7, 8, 9, 10, 11, 12] rfl rfl 0 3 rfl rfl) rfl rfl hl.1 rfl (lv_room (Nat.le_of_ble_eq_true rfl)) dX6_doCommand_112 ⟨Nat.zero_le _, Nat.zero_le _⟩) hP hD hS hA [3, 4, 5, 6, 7, 8, 9, 10, 11, 12] rfl rfl (fun _ => (rfl : ([a 0, a 1, a 2, a 3, a 4, a 5, a 6, a 7, a 8, a 9] : List Nat) = [a 0, a 1, a 2, a 3, a 4, a 5, a 6, a 7, a 8, a 9])) ?_
            rintro b1_112 H locs hbr_112 hP hD hS
            have hP : va_P g vwCl [(h, .inr (4, [.ref hs, .int (nI ln), .int (nI p), .int (nI lt), .ref hp, .int (nI pn)])), aI cy hs 120 (mS tx), aI cy hp 4 (mS pt), (a 0, .inr (0, [.ref (a 1), .ref (a 4), .ref (a 6), .ref (a 8), .ref (a 9), .int (nI ((sightR σ (nI (pt 0)) (nI (pt 1)) (nI (pt 2)) (nI 0) (decide (nI (pt 3) = nI 1))) 2)), .int (nI ((sightR σ (nI (pt 0)) (nI (pt 1)) (nI (pt 2)) (nI 0) (decide (nI (pt 3) = nI 1))) 3)), .int (nI ((sightR σ (nI (pt 0)) (nI (pt 1)) (nI (pt 2)) (nI 0) (decide (nI (pt 3) = nI 1))) 4)), .int (nI ((sightR σ (nI (pt 0)) (nI (pt 1)) (nI (pt 2)) (nI 0) (decide (nI (pt 3) = nI 1))) 5)), .int (nI ((sightR σ (nI (pt 0)) (nI (pt 1)) (nI (pt 2)) (nI 0) (decide (nI (pt 3) = nI 1))) 6)), .int (nI ((sightR σ (nI (pt 0)) (nI (pt 1)) (nI (pt 2)) (nI 0) (decide (nI (pt 3) = nI 1))) 7))])), (a 1, .inr (2, [.ref (a 2), .ref (a 3), .int (nI (cmk (sightR σ (nI (pt 0)) (nI (pt 1)) (nI (pt 2)) (nI 0) (decide (nI (pt 3) = nI 1)))))])), aI cy (a 2) 144 (wv (sightR σ (nI (pt 0)) (nI (pt 1)) (nI (pt 2)) (nI 0) (decide (nI (pt 3) = nI 1)))), aI cy (a 3) 12 (b1_112 1), (a 4, .inr (3, [.int (nI 6), .int (nI 11), .ref (a 5), .int (nI ((sightR σ (nI (pt 0)) (nI (pt 1)) (nI (pt 2)) (nI 0) (decide (nI (pt 3) = nI 1))) 0))])), aI cy (a 5) 66 (b1_112 2), (a 6, .inr (3, [.int (nI 20), .int (nI 6), .ref (a 7), .int (nI ((sightR σ (nI (pt 0)) (nI (pt 1)) (nI (pt 2)) (nI 0) (decide (nI (pt 3) = nI 1))) 1))])), aI cy (a 7) 120 (b1_112 3), aI cy (a 8) 8 (mS (pu (sightR σ (nI (pt 0)) (nI (pt 1)) (nI (pt 2)) (nI 0) (decide (nI (pt 3) = nI 1))))), aI cy (a 9) 6 (b1_112 5)] H := hP
            have hD : va_D A [(h, .inr (4, [.ref hs, .int (nI ln), .int (nI p), .int (nI lt), .ref hp, .int (nI pn)])), aI cy hs 120 (mS tx), aI cy hp 4 (mS pt), (a 0, .inr (0, [.ref (a 1), .ref (a 4), .ref (a 6), .ref (a 8), .ref (a 9), .int (nI ((sightR σ (nI (pt 0)) (nI (pt 1)) (nI (pt 2)) (nI 0) (decide (nI (pt 3) = nI 1))) 2)), .int (nI ((sightR σ (nI (pt 0)) (nI (pt 1)) (nI (pt 2)) (nI 0) (decide (nI (pt 3) = nI 1))) 3)), .int (nI ((sightR σ (nI (pt 0)) (nI (pt 1)) (nI (pt 2)) (nI 0) (decide (nI (pt 3) = nI 1))) 4)), .int (nI ((sightR σ (nI (pt 0)) (nI (pt 1)) (nI (pt 2)) (nI 0) (decide (nI (pt 3) = nI 1))) 5)), .int (nI ((sightR σ (nI (pt 0)) (nI (pt 1)) (nI (pt 2)) (nI 0) (decide (nI (pt 3) = nI 1))) 6)), .int (nI ((sightR σ (nI (pt 0)) (nI (pt 1)) (nI (pt 2)) (nI 0) (decide (nI (pt 3) = nI 1))) 7))])), (a 1, .inr (2, [.ref (a 2), .ref (a 3), .int (nI (cmk (sightR σ (nI (pt 0)) (nI (pt 1)) (nI (pt 2)) (nI 0) (decide (nI (pt 3) = nI 1)))))])), aI cy (a 2) 144 (wv (sightR σ (nI (pt 0)) (nI (pt 1)) (nI (pt 2)) (nI 0) (decide (nI (pt 3) = nI 1)))), aI cy (a 3) 12 (b1_112 1), (a 4, .inr (3, [.int (nI 6), .int (nI 11), .ref (a 5), .int (nI ((sightR σ (nI (pt 0)) (nI (pt 1)) (nI (pt 2)) (nI 0) (decide (nI (pt 3) = nI 1))) 0))])), aI cy (a 5) 66 (b1_112 2), (a 6, .inr (3, [.int (nI 20), .int (nI 6), .ref (a 7), .int (nI ((sightR σ (nI (pt 0)) (nI (pt 1)) (nI (pt 2)) (nI 0) (decide (nI (pt 3) = nI 1))) 1))])), aI cy (a 7) 120 (b1_112 3), aI cy (a 8) 8 (mS (pu (sightR σ (nI (pt 0)) (nI (pt 1)) (nI (pt 2)) (nI 0) (decide (nI (pt 3) = nI 1))))), aI cy (a 9) 6 (b1_112 5)] := hD
            have hbr_112 : BR (sightR σ (nI (pt 0)) (nI (pt 1)) (nI (pt 2)) (nI 0) (decide (nI (pt 3) = nI 1))) b1_112 := hbr_112
            show W _ _ _ _ _ _ _ _ _ _ _ _ _ _ _ (F0 mX 115 ls [.int (nI (sightA σ (nI (pt 0)) (nI (pt 1)) (nI (pt 2)) (nI 0)))])
            have heS : doR lt pt σ = sightR σ (nI (pt 0)) (nI (pt 1)) (nI (pt 2)) (nI 0) (decide (nI (pt 3) = nI 1)) := by unfold doR; rw [if_neg c_4_100, if_neg c_4_102, if_neg c_4_104, if_pos c_4_115]
            have heA : doA lt pt σ = sightA σ (nI (pt 0)) (nI (pt 1)) (nI (pt 2)) (nI 0) := by unfold doA; rw [if_neg c_4_100, if_neg c_4_102, if_neg c_4_104, if_pos c_4_115]
            exact wr_i b1_112 (by rw [heA]) (by rw [heS]; exact hbr_112) (by rw [heS]; exact hP) hS hx hb hr dX6_doCommand_115 hlk
          · skip
            refine lv_aload_n hx hb dX6_doCommand_98 rfl (lv_at hl 0 rfl) ?_
            refine lv_iconst (v := (nI 3)) hx hb dX6_doCommand_99 (by decide) ?_
            refine rd_call (va_runV (As := [.int (nI 3)]) (rest := [.int (nI 0), .int (nI (pt 2)), .int (nI (pt 1)), .int (nI (pt 0)), .ref (a 0)]) ⟨hx, hb, hml, hown, hts⟩ (c_X6_part l g cy h hs hp s.heap.size tx ln p lt pt pn 3 (by omega) (by omega)) ⟨(cB 1 hts wd12_20 wd2_0 wd12_17 rfl rfl (by decide +kernel) ⟨Nat.le_of_ble_eq_true rfl, Nat.le_of_ble_eq_true rfl⟩), hts _ wd12_18, hts _ wd12_19⟩ (pv hK hP hD hS hA hX [0, 1, 2] rfl rfl 4 0 rfl rfl) rfl rfl hl.1 rfl (lv_room (Nat.le_of_ble_eq_true rfl)) dX6_doCommand_100 ⟨Nat.zero_le _, Nat.zero_le _⟩) ?_
            show W _ _ _ _ _ _ _ _ _ _ _ _ _ _ _ (F0 mX 103 ls [.int (nI (pt 3)), .int (nI 0), .int (nI (pt 2)), .int (nI (pt 1)), .int (nI (pt 0)), .ref (a 0)])
            refine ti (show (nI (pt 3)) = (nI (pt 3)) from rfl) ?_
            refine lv_iconst (v := (nI 1)) hx hb dX6_doCommand_103 (by decide) ?_
            refine lv_icmp_ne (tgt := 111) hx hb dX6_doCommand_104 (by decide) (fun c_104 => ?_) (fun c_104 => ?_)
            · skip
              refine lv_iconst (v := (nI 0)) hx hb dX6_doCommand_111 (by decide) ?_
              exact jn112 _ (by rw [decide_eq_false c_104]; rfl)
            · skip
              refine lv_iconst (v := (nI 1)) hx hb dX6_doCommand_107 (by decide) ?_
              refine lv_goto (tgt := 112) hx hb dX6_doCommand_108 (by decide) ?_
              exact jn112 _ (by rw [decide_eq_true c_104]; rfl)
        · skip
          by_cases c_4_120 : (nI lt) = nI 120
          · refine lv_lookup (tgt := 136) (off := 132) hx hb dX6_doCommand_4 rfl (by rw [c_4_120]; decide) (by decide) ?_
            have hpn9 : pn = 3 := by rw [hpn]; unfold npt; rw [if_neg c_4_100, if_neg c_4_102, if_neg c_4_104, if_neg c_4_115, if_pos c_4_120]
            refine lv_aload_n hx hb dX6_doCommand_136 rfl (lv_at hl 1 rfl) ?_
            refine lv_aload_n hx hb dX6_doCommand_137 rfl (lv_at hl 0 rfl) ?_
            refine lv_iconst (v := (nI 0)) hx hb dX6_doCommand_138 (by decide) ?_
            refine rd_call (va_runV (As := [.int (nI 0)]) (rest := [.ref (a 0)]) ⟨hx, hb, hml, hown, hts⟩ (c_X6_part l g cy h hs hp s.heap.size tx ln p lt pt pn 0 (by omega) (by omega)) ⟨(cB 1 hts wd12_20 wd2_0 wd12_17 rfl rfl (by decide +kernel) ⟨Nat.le_of_ble_eq_true rfl, Nat.le_of_ble_eq_true rfl⟩), hts _ wd12_18, hts _ wd12_19⟩ (pv hK hP hD hS hA hX [0, 1, 2] rfl rfl 4 0 rfl rfl) rfl rfl hl.1 rfl (lv_room (Nat.le_of_ble_eq_true rfl)) dX6_doCommand_139 ⟨Nat.zero_le _, Nat.zero_le _⟩) ?_
            show W _ _ _ _ _ _ _ _ _ _ _ _ _ _ _ (F0 mX 142 ls [.int (nI (pt 0)), .ref (a 0)])
            refine lv_aload_n hx hb dX6_doCommand_142 rfl (lv_at hl 0 rfl) ?_
            refine lv_iconst (v := (nI 1)) hx hb dX6_doCommand_143 (by decide) ?_
            refine rd_call (va_runV (As := [.int (nI 1)]) (rest := [.int (nI (pt 0)), .ref (a 0)]) ⟨hx, hb, hml, hown, hts⟩ (c_X6_part l g cy h hs hp s.heap.size tx ln p lt pt pn 1 (by omega) (by omega)) ⟨(cB 1 hts wd12_20 wd2_0 wd12_17 rfl rfl (by decide +kernel) ⟨Nat.le_of_ble_eq_true rfl, Nat.le_of_ble_eq_true rfl⟩), hts _ wd12_18, hts _ wd12_19⟩ (pv hK hP hD hS hA hX [0, 1, 2] rfl rfl 4 0 rfl rfl) rfl rfl hl.1 rfl (lv_room (Nat.le_of_ble_eq_true rfl)) dX6_doCommand_144 ⟨Nat.zero_le _, Nat.zero_le _⟩) ?_
            show W _ _ _ _ _ _ _ _ _ _ _ _ _ _ _ (F0 mX 147 ls [.int (nI (pt 1)), .int (nI (pt 0)), .ref (a 0)])
            refine jn_i (pcj := 161) (ls := ls) (st := [.int (nI (pt 1)), .int (nI (pt 0)), .ref (a 0)]) (fun v9 => v9 = (bI (decide (nI (pt 2) = nI 1)))) ?_ (fun jn161 => ?_)
            · intro v9 hv9
              subst hv9
              refine wr_call (wc := [(a 0, .inr (0, [.ref (a 1), .ref (a 4), .ref (a 6), .ref (a 8), .ref (a 9), .int (nI (σ 2)), .int (nI (σ 3)), .int (nI (σ 4)), .int (nI (σ 5)), .int (nI (σ 6)), .int (nI (σ 7))])), (a 1, .inr (2, [.ref (a 2), .ref (a 3), .int (nI (cmk σ))])), aI cy (a 2) 144 (wv σ), aI cy (a 3) 12 (b 1), (a 4, .inr (3, [.int (nI 6), .int (nI 11), .ref (a 5), .int (nI (σ 0))])), aI cy (a 5) 66 (b 2), (a 6, .inr (3, [.int (nI 20), .int (nI 6), .ref (a 7), .int (nI (σ 1))])), aI cy (a 7) 120 (b 3), aI cy (a 8) 8 (mS (pu σ)), aI cy (a 9) 6 (b 5)]) (va_runV (As := [.int (nI (pt 0)), .int (nI (pt 1)), .int (bI (decide (nI (pt 2) = nI 1)))]) (rest := []) ⟨hx, hb, hml, hown, hts⟩ (c_X0_closeStreet l g cy  s.heap.size a σ b bd (nI (pt 0)) (nI (pt 1)) (decide (nI (pt 2) = nI 1)) hwf hbr) ⟨(cB 3 hts wd17_1 wd1_12 wd16_22 rfl rfl (by decide +kernel) ⟨Nat.le_of_ble_eq_true rfl, Nat.le_of_ble_eq_true rfl⟩), hts _ wd16_23, hts _ wd17_0⟩ (pv hK hP hD hS hA hX [3, 4, 5, 6, 7, 8, 9, 10, 11, 12] rfl rfl 0 3 rfl rfl) rfl rfl hl.1 rfl (lv_room (Nat.le_of_ble_eq_true rfl)) dX6_doCommand_161 ⟨Nat.zero_le _, Nat.zero_le _⟩) hP hD hS hA [3, 4, 5, 6, 7, 8, 9, 10, 11, 12] rfl rfl (fun _ => (rfl : ([a 0, a 1, a 2, a 3, a 4, a 5, a 6, a 7, a 8, a 9] : List Nat) = [a 0, a 1, a 2, a 3, a 4, a 5, a 6, a 7, a 8, a 9])) ?_
              rintro b1_161 H locs hbr_161 hP hD hS
              have hP : va_P g vwCl [(h, .inr (4, [.ref hs, .int (nI ln), .int (nI p), .int (nI lt), .ref hp, .int (nI pn)])), aI cy hs 120 (mS tx), aI cy hp 4 (mS pt), (a 0, .inr (0, [.ref (a 1), .ref (a 4), .ref (a 6), .ref (a 8), .ref (a 9), .int (nI ((closeR σ (nI (pt 0)) (nI (pt 1)) (decide (nI (pt 2) = nI 1))) 2)), .int (nI ((closeR σ (nI (pt 0)) (nI (pt 1)) (decide (nI (pt 2) = nI 1))) 3)), .int (nI ((closeR σ (nI (pt 0)) (nI (pt 1)) (decide (nI (pt 2) = nI 1))) 4)), .int (nI ((closeR σ (nI (pt 0)) (nI (pt 1)) (decide (nI (pt 2) = nI 1))) 5)), .int (nI ((closeR σ (nI (pt 0)) (nI (pt 1)) (decide (nI (pt 2) = nI 1))) 6)), .int (nI ((closeR σ (nI (pt 0)) (nI (pt 1)) (decide (nI (pt 2) = nI 1))) 7))])), (a 1, .inr (2, [.ref (a 2), .ref (a 3), .int (nI (cmk (closeR σ (nI (pt 0)) (nI (pt 1)) (decide (nI (pt 2) = nI 1)))))])), aI cy (a 2) 144 (wv (closeR σ (nI (pt 0)) (nI (pt 1)) (decide (nI (pt 2) = nI 1)))), aI cy (a 3) 12 (b1_161 1), (a 4, .inr (3, [.int (nI 6), .int (nI 11), .ref (a 5), .int (nI ((closeR σ (nI (pt 0)) (nI (pt 1)) (decide (nI (pt 2) = nI 1))) 0))])), aI cy (a 5) 66 (b1_161 2), (a 6, .inr (3, [.int (nI 20), .int (nI 6), .ref (a 7), .int (nI ((closeR σ (nI (pt 0)) (nI (pt 1)) (decide (nI (pt 2) = nI 1))) 1))])), aI cy (a 7) 120 (b1_161 3), aI cy (a 8) 8 (mS (pu (closeR σ (nI (pt 0)) (nI (pt 1)) (decide (nI (pt 2) = nI 1))))), aI cy (a 9) 6 (b1_161 5)] H := hP
              have hD : va_D A [(h, .inr (4, [.ref hs, .int (nI ln), .int (nI p), .int (nI lt), .ref hp, .int (nI pn)])), aI cy hs 120 (mS tx), aI cy hp 4 (mS pt), (a 0, .inr (0, [.ref (a 1), .ref (a 4), .ref (a 6), .ref (a 8), .ref (a 9), .int (nI ((closeR σ (nI (pt 0)) (nI (pt 1)) (decide (nI (pt 2) = nI 1))) 2)), .int (nI ((closeR σ (nI (pt 0)) (nI (pt 1)) (decide (nI (pt 2) = nI 1))) 3)), .int (nI ((closeR σ (nI (pt 0)) (nI (pt 1)) (decide (nI (pt 2) = nI 1))) 4)), .int (nI ((closeR σ (nI (pt 0)) (nI (pt 1)) (decide (nI (pt 2) = nI 1))) 5)), .int (nI ((closeR σ (nI (pt 0)) (nI (pt 1)) (decide (nI (pt 2) = nI 1))) 6)), .int (nI ((closeR σ (nI (pt 0)) (nI (pt 1)) (decide (nI (pt 2) = nI 1))) 7))])), (a 1, .inr (2, [.ref (a 2), .ref (a 3), .int (nI (cmk (closeR σ (nI (pt 0)) (nI (pt 1)) (decide (nI (pt 2) = nI 1)))))])), aI cy (a 2) 144 (wv (closeR σ (nI (pt 0)) (nI (pt 1)) (decide (nI (pt 2) = nI 1)))), aI cy (a 3) 12 (b1_161 1), (a 4, .inr (3, [.int (nI 6), .int (nI 11), .ref (a 5), .int (nI ((closeR σ (nI (pt 0)) (nI (pt 1)) (decide (nI (pt 2) = nI 1))) 0))])), aI cy (a 5) 66 (b1_161 2), (a 6, .inr (3, [.int (nI 20), .int (nI 6), .ref (a 7), .int (nI ((closeR σ (nI (pt 0)) (nI (pt 1)) (decide (nI (pt 2) = nI 1))) 1))])), aI cy (a 7) 120 (b1_161 3), aI cy (a 8) 8 (mS (pu (closeR σ (nI (pt 0)) (nI (pt 1)) (decide (nI (pt 2) = nI 1))))), aI cy (a 9) 6 (b1_161 5)] := hD
              have hbr_161 : BR (closeR σ (nI (pt 0)) (nI (pt 1)) (decide (nI (pt 2) = nI 1))) b1_161 := hbr_161
              show W _ _ _ _ _ _ _ _ _ _ _ _ _ _ _ (F0 mX 164 ls [.int (nI (closeA σ (nI (pt 0)) (nI (pt 1)) (decide (nI (pt 2) = nI 1))))])
              have heS : doR lt pt σ = closeR σ (nI (pt 0)) (nI (pt 1)) (decide (nI (pt 2) = nI 1)) := by unfold doR; rw [if_neg c_4_100, if_neg c_4_102, if_neg c_4_104, if_neg c_4_115, if_pos c_4_120]
              have heA : doA lt pt σ = closeA σ (nI (pt 0)) (nI (pt 1)) (decide (nI (pt 2) = nI 1)) := by unfold doA; rw [if_neg c_4_100, if_neg c_4_102, if_neg c_4_104, if_neg c_4_115, if_pos c_4_120]
              exact wr_i b1_161 (by rw [heA]) (by rw [heS]; exact hbr_161) (by rw [heS]; exact hP) hS hx hb hr dX6_doCommand_164 hlk
            · skip
              refine lv_aload_n hx hb dX6_doCommand_147 rfl (lv_at hl 0 rfl) ?_
              refine lv_iconst (v := (nI 2)) hx hb dX6_doCommand_148 (by decide) ?_
              refine rd_call (va_runV (As := [.int (nI 2)]) (rest := [.int (nI (pt 1)), .int (nI (pt 0)), .ref (a 0)]) ⟨hx, hb, hml, hown, hts⟩ (c_X6_part l g cy h hs hp s.heap.size tx ln p lt pt pn 2 (by omega) (by omega)) ⟨(cB 1 hts wd12_20 wd2_0 wd12_17 rfl rfl (by decide +kernel) ⟨Nat.le_of_ble_eq_true rfl, Nat.le_of_ble_eq_true rfl⟩), hts _ wd12_18, hts _ wd12_19⟩ (pv hK hP hD hS hA hX [0, 1, 2] rfl rfl 4 0 rfl rfl) rfl rfl hl.1 rfl (lv_room (Nat.le_of_ble_eq_true rfl)) dX6_doCommand_149 ⟨Nat.zero_le _, Nat.zero_le _⟩) ?_
              show W _ _ _ _ _ _ _ _ _ _ _ _ _ _ _ (F0 mX 152 ls [.int (nI (pt 2)), .int (nI (pt 1)), .int (nI (pt 0)), .ref (a 0)])
              refine ti (show (nI (pt 2)) = (nI (pt 2)) from rfl) ?_
              refine lv_iconst (v := (nI 1)) hx hb dX6_doCommand_152 (by decide) ?_
              refine lv_icmp_ne (tgt := 160) hx hb dX6_doCommand_153 (by decide) (fun c_153 => ?_) (fun c_153 => ?_)
              · skip
                refine lv_iconst (v := (nI 0)) hx hb dX6_doCommand_160 (by decide) ?_
                exact jn161 _ (by rw [decide_eq_false c_153]; rfl)
              · skip
                refine lv_iconst (v := (nI 1)) hx hb dX6_doCommand_156 (by decide) ?_
                refine lv_goto (tgt := 161) hx hb dX6_doCommand_157 (by decide) ?_
                exact jn161 _ (by rw [decide_eq_true c_153]; rfl)
          · skip
            refine lv_lookup (tgt := 175) (off := 171) hx hb dX6_doCommand_4 rfl ((lv_osw c_4_100 (a := 100) (by decide)).trans ((lv_osw c_4_102 (a := 102) (by decide)).trans ((lv_osw c_4_104 (a := 104) (by decide)).trans ((lv_osw c_4_115 (a := 115) (by decide)).trans ((lv_osw c_4_120 (a := 120) (by decide)).trans (rfl)))))) (by decide) ?_
            refine lv_bipush (v := (nI NN2)) hx hb dX6_doCommand_175 (by decide) ?_
            have heS : doR lt pt σ = σ := by unfold doR; rw [if_neg c_4_100, if_neg c_4_102, if_neg c_4_104, if_neg c_4_115, if_neg c_4_120]
            have heA : doA lt pt σ = NN2 := by unfold doA; rw [if_neg c_4_100, if_neg c_4_102, if_neg c_4_104, if_neg c_4_115, if_neg c_4_120]
            exact wr_i b (by rw [heA]) (by rw [heS]; exact hbr) (by rw [heS]; exact hP) hS hx hb hr dX6_doCommand_177 hlk
set_option maxHeartbeats 4000000 in
set_option maxRecDepth 100000 in
theorem c_X4_succeeds (l : Launch) (g : va_G) (cy : Nat → ClassId) (sz : Nat) (a : Nat → Nat) (σ : Nat → Nat) (b : Nat → Nat → Int32) (bd : Nat) (g9 : Nat) (hwf : WF bd σ) (hbr : BR σ b) (hg9 : g9 < 1000000) : Met l yX4_succeeds (Cond.code yX4_succeeds cX4_succeeds 9 (some .boolean) :: wsL_law) ({ frames := 5, cells := 0, slots := 0, locals := 122 } : Room) (va_Pc [.ref (a 0), .int (nI g9)] (pr g cy [(a 0, .inr (0, [.ref (a 1), .ref (a 4), .ref (a 6), .ref (a 8), .ref (a 9), .int (nI (σ 2)), .int (nI (σ 3)), .int (nI (σ 4)), .int (nI (σ 5)), .int (nI (σ 6)), .int (nI (σ 7))])), (a 1, .inr (2, [.ref (a 2), .ref (a 3), .int (nI (cmk σ))])), aI cy (a 2) 144 (wv σ), aI cy (a 3) 12 (b 1), (a 4, .inr (3, [.int (nI 6), .int (nI 11), .ref (a 5), .int (nI (σ 0))])), aI cy (a 5) 66 (b 2), (a 6, .inr (3, [.int (nI 20), .int (nI 6), .ref (a 7), .int (nI (σ 1))])), aI cy (a 7) 120 (b 3), aI cy (a 8) 8 (mS (pu σ)), aI cy (a 9) 6 (b 5)] sz)) (wr_Q (fun b1 : Nat → Nat → Int32 => (some (.int (bI (scB g9 σ))))) (fun b1 : Nat → Nat → Int32 => (BR (scS g9 σ) b1)) (fun b1 : Nat → Nat → Int32 => [(a 0, .inr (0, [.ref (a 1), .ref (a 4), .ref (a 6), .ref (a 8), .ref (a 9), .int (nI ((scS g9 σ) 2)), .int (nI ((scS g9 σ) 3)), .int (nI ((scS g9 σ) 4)), .int (nI ((scS g9 σ) 5)), .int (nI ((scS g9 σ) 6)), .int (nI ((scS g9 σ) 7))])), (a 1, .inr (2, [.ref (a 2), .ref (a 3), .int (nI (cmk (scS g9 σ)))])), aI cy (a 2) 144 (wv (scS g9 σ)), aI cy (a 3) 12 (b1 1), (a 4, .inr (3, [.int (nI 6), .int (nI 11), .ref (a 5), .int (nI ((scS g9 σ) 0))])), aI cy (a 5) 66 (b1 2), (a 6, .inr (3, [.int (nI 20), .int (nI 6), .ref (a 7), .int (nI ((scS g9 σ) 1))])), aI cy (a 7) 120 (b1 3), aI cy (a 8) 8 (mS (pu (scS g9 σ))), aI cy (a 9) 6 (b1 5)]) g (va_A [(a 0, .inr (0, [.ref (a 1), .ref (a 4), .ref (a 6), .ref (a 8), .ref (a 9), .int (nI (σ 2)), .int (nI (σ 3)), .int (nI (σ 4)), .int (nI (σ 5)), .int (nI (σ 6)), .int (nI (σ 7))])), (a 1, .inr (2, [.ref (a 2), .ref (a 3), .int (nI (cmk σ))])), aI cy (a 2) 144 (wv σ), aI cy (a 3) 12 (b 1), (a 4, .inr (3, [.int (nI 6), .int (nI 11), .ref (a 5), .int (nI (σ 0))])), aI cy (a 5) 66 (b 2), (a 6, .inr (3, [.int (nI 20), .int (nI 6), .ref (a 7), .int (nI (σ 1))])), aI cy (a 7) 120 (b 3), aI cy (a 8) 8 (mS (pu σ)), aI cy (a 9) 6 (b 5)] sz)) 0 0 (va_A [(a 0, .inr (0, [.ref (a 1), .ref (a 4), .ref (a 6), .ref (a 8), .ref (a 9), .int (nI (σ 2)), .int (nI (σ 3)), .int (nI (σ 4)), .int (nI (σ 5)), .int (nI (σ 6)), .int (nI (σ 7))])), (a 1, .inr (2, [.ref (a 2), .ref (a 3), .int (nI (cmk σ))])), aI cy (a 2) 144 (wv σ), aI cy (a 3) 12 (b 1), (a 4, .inr (3, [.int (nI 6), .int (nI 11), .ref (a 5), .int (nI (σ 0))])), aI cy (a 5) 66 (b 2), (a 6, .inr (3, [.int (nI 20), .int (nI 6), .ref (a 7), .int (nI (σ 1))])), aI cy (a 7) 120 (b 3), aI cy (a 8) 8 (mS (pu σ)), aI cy (a 9) 6 (b 5)] sz) := by
  refine mt_of (cc := cX4_succeeds) (maxL := 9) (ret := (some .boolean)) (by decide +kernel) (Nat.le_of_ble_eq_true rfl) ?_
  intro pX eX s mX below meth cX ls A hx hb hr hml hown hts hlk hin hsz hAe hA hP hD hK hX hl
  subst hsz
  rw [← hAe]
  clear hAe
  have hl : lv_has ls 9 [(0, .ref (a 0)), (1, .int (nI g9))] := hl
  have hS : va_S A s.heap s.heap [] := va_S.rf
  have hn0 := hwf.n0
  have hn1 := hwf.n1
  have hh2 := hwf.h2
  refine lv_iload_n hx hb dX4_succeeds_0 rfl (lv_at hl 1 rfl) ?_
  refine lv_sipush (v := (nI 10000)) hx hb dX4_succeeds_1 (by decide) ?_
  refine lv_idiv hx hb dX4_succeeds_4 (nI_ne0 (by omega) (by omega)) ?_
  refine ti (pk_div (a := g9) (d := 10000) (by omega) (by omega) (by omega)) ?_
  refine lv_bipush (v := (nI 10)) hx hb dX4_succeeds_5 (by decide) ?_
  refine lv_irem hx hb dX4_succeeds_7 (nI_ne0 (by omega) (by omega)) ?_
  refine ti (pk_rem (a := (g9 / 10000)) (d := 10) (by omega) (by omega) (by omega)) ?_
  refine lv_istore_n (lv' := [(2, .int (nI ((g9 / 10000) % 10))), (0, .ref (a 0)), (1, .int (nI g9))]) hx hb dX4_succeeds_8 rfl hl (by decide) rfl (fun ls hl => ?_)
  refine lv_iload_n hx hb dX4_succeeds_9 rfl (lv_at hl 2 rfl) ?_
  refine lv_sipush (v := (nI 1000)) hx hb dX4_succeeds_10 (by decide) ?_
  refine lv_idiv hx hb dX4_succeeds_13 (nI_ne0 (by omega) (by omega)) ?_
  refine ti (pk_div (a := g9) (d := 1000) (by omega) (by omega) (by omega)) ?_
  refine lv_bipush (v := (nI 10)) hx hb dX4_succeeds_14 (by decide) ?_
  refine lv_irem hx hb dX4_succeeds_16 (nI_ne0 (by omega) (by omega)) ?_
  refine ti (pk_rem (a := (g9 / 1000)) (d := 10) (by omega) (by omega) (by omega)) ?_
  refine lv_istore_n (lv' := [(3, .int (nI ((g9 / 1000) % 10))), (2, .int (nI ((g9 / 10000) % 10))), (0, .ref (a 0)), (1, .int (nI g9))]) hx hb dX4_succeeds_17 rfl hl (by decide) rfl (fun ls hl => ?_)
  refine lv_iload_n hx hb dX4_succeeds_18 rfl (lv_at hl 3 rfl) ?_
  refine lv_bipush (v := (nI 100)) hx hb dX4_succeeds_19 (by decide) ?_
  refine lv_idiv hx hb dX4_succeeds_21 (nI_ne0 (by omega) (by omega)) ?_
  refine ti (pk_div (a := g9) (d := 100) (by omega) (by omega) (by omega)) ?_
  refine lv_bipush (v := (nI 100)) hx hb dX4_succeeds_22 (by decide) ?_
  refine lv_irem hx hb dX4_succeeds_24 (nI_ne0 (by omega) (by omega)) ?_
  refine ti (pk_rem (a := (g9 / 100)) (d := 100) (by omega) (by omega) (by omega)) ?_
  refine lv_istore (lv' := [(4, .int (nI ((g9 / 100) % 100))), (3, .int (nI ((g9 / 1000) % 10))), (2, .int (nI ((g9 / 10000) % 10))), (0, .ref (a 0)), (1, .int (nI g9))]) hx hb dX4_succeeds_25 hl (by decide) rfl (fun ls hl => ?_)
  refine lv_iload_n hx hb dX4_succeeds_27 rfl (lv_at hl 4 rfl) ?_
  refine lv_bipush (v := (nI 10)) hx hb dX4_succeeds_28 (by decide) ?_
  refine lv_idiv hx hb dX4_succeeds_30 (nI_ne0 (by omega) (by omega)) ?_
  refine ti (pk_div (a := g9) (d := 10) (by omega) (by omega) (by omega)) ?_
  refine lv_bipush (v := (nI 10)) hx hb dX4_succeeds_31 (by decide) ?_
  refine lv_irem hx hb dX4_succeeds_33 (nI_ne0 (by omega) (by omega)) ?_
  refine ti (pk_rem (a := (g9 / 10)) (d := 10) (by omega) (by omega) (by omega)) ?_
  refine lv_istore (lv' := [(5, .int (nI ((g9 / 10) % 10))), (4, .int (nI ((g9 / 100) % 100))), (3, .int (nI ((g9 / 1000) % 10))), (2, .int (nI ((g9 / 10000) % 10))), (0, .ref (a 0)), (1, .int (nI g9))]) hx hb dX4_succeeds_34 hl (by decide) rfl (fun ls hl => ?_)
  refine lv_iload_n hx hb dX4_succeeds_36 rfl (lv_at hl 5 rfl) ?_
  refine lv_bipush (v := (nI 10)) hx hb dX4_succeeds_37 (by decide) ?_
  refine lv_irem hx hb dX4_succeeds_39 (nI_ne0 (by omega) (by omega)) ?_
  refine ti (pk_rem (a := g9) (d := 10) (by omega) (by omega) (by omega)) ?_
  refine lv_istore (lv' := [(6, .int (nI (g9 % 10))), (5, .int (nI ((g9 / 10) % 10))), (4, .int (nI ((g9 / 100) % 100))), (3, .int (nI ((g9 / 1000) % 10))), (2, .int (nI ((g9 / 10000) % 10))), (0, .ref (a 0)), (1, .int (nI g9))]) hx hb dX4_succeeds_40 hl (by decide) rfl (fun ls hl => ?_)
  refine lv_iload_n hx hb dX4_succeeds_42 rfl (lv_at hl 6 rfl) ?_
  refine lv_bipush (v := (nI 100)) hx hb dX4_succeeds_43 (by decide) ?_
  refine lv_irem hx hb dX4_succeeds_45 (nI_ne0 (by omega) (by omega)) ?_
  refine ti (pk_rem (a := g9) (d := 100) (by omega) (by omega) (by omega)) ?_
  refine lv_istore (lv' := [(7, .int (nI (g9 % 100))), (6, .int (nI (g9 % 10))), (5, .int (nI ((g9 / 10) % 10))), (4, .int (nI ((g9 / 100) % 100))), (3, .int (nI ((g9 / 1000) % 10))), (2, .int (nI ((g9 / 10000) % 10))), (0, .ref (a 0)), (1, .int (nI g9))]) hx hb dX4_succeeds_46 hl (by decide) rfl (fun ls hl => ?_)
  refine lv_iload_n hx hb dX4_succeeds_48 rfl (lv_at hl 7 rfl) ?_
  refine lv_sipush (v := (nI 1000)) hx hb dX4_succeeds_49 (by decide) ?_
  refine lv_irem hx hb dX4_succeeds_52 (nI_ne0 (by omega) (by omega)) ?_
  refine ti (pk_rem (a := g9) (d := 1000) (by omega) (by omega) (by omega)) ?_
  refine lv_istore (lv' := [(8, .int (nI (g9 % 1000))), (7, .int (nI (g9 % 100))), (6, .int (nI (g9 % 10))), (5, .int (nI ((g9 / 10) % 10))), (4, .int (nI ((g9 / 100) % 100))), (3, .int (nI ((g9 / 1000) % 10))), (2, .int (nI ((g9 / 10000) % 10))), (0, .ref (a 0)), (1, .int (nI g9))]) hx hb dX4_succeeds_53 hl (by decide) rfl (fun ls hl => ?_)
  refine lv_iload_n hx hb dX4_succeeds_55 rfl (lv_at hl 8 rfl) ?_
  refine lv_ldc hx hb hown (hts _ wd27_10) dX4_succeeds_56 ?_
  refine ti (show (100000 : Int32) = nI 100000 from by decide) ?_
  refine lv_idiv hx hb dX4_succeeds_58 (nI_ne0 (by omega) (by omega)) ?_
  refine ti (pk_div (a := g9) (d := 100000) (by omega) (by omega) (by omega)) ?_
  rcases sw_tab 1 9 (by decide) (nI (g9 / 100000)) with h9 | ⟨j9, h9, c_59⟩
  · have c_59 := h9
    refine lv_tableOut (tgt := 393) hx hb dX4_succeeds_59 (by omega) (by decide) ?_
    have h59 : g9 / 100000 = 0 ∨ 10 ≤ g9 / 100000 := by rw [nI_toInt (by omega)] at c_59; omega
    have h59 : g9 / 100000 = 0 := by omega
    refine lv_iconst (v := (nI 0)) hx hb dX4_succeeds_393 (by decide) ?_
    have heS : scS g9 σ = σ := by simp [scS, h59]
    have heB : scB g9 σ = false := by simp [scB, h59]
    exact wr_z (b := (scB g9 σ)) b (by rw [heB]; rfl) rfl (by rw [heS]; exact hbr) (by rw [heS]; exact hP) hS hx hb hr dX4_succeeds_394 hlk
  · rcases (show j9 = 0 ∨ j9 = 1 ∨ j9 = 2 ∨ j9 = 3 ∨ j9 = 4 ∨ j9 = 5 ∨ j9 = 6 ∨ j9 = 7 ∨ j9 = 8 by omega) with rfl | rfl | rfl | rfl | rfl | rfl | rfl | rfl | rfl
    · have c_59 : (nI (g9 / 100000)) = nI 1 := c_59
      refine lv_tableIn (tgt := 108) (off := 49) hx hb dX4_succeeds_59 (by rw [c_59]; decide) (by rw [c_59]; decide) (by rw [c_59]; decide) (by decide) ?_
      have h59 : g9 / 100000 = 1 := nc_eq (by omega) (by decide) c_59
      refine lv_iload_n hx hb dX4_succeeds_108 rfl (lv_at hl 6 rfl) ?_
      refine lv_if_ne (tgt := 132) hx hb dX4_succeeds_109 (by decide) (fun c_109 => ?_) (fun c_109 => ?_)
      · have c_109 := (nz_ne c_109 (by omega))
        refine lv_iconst (v := (nI 0)) hx hb dX4_succeeds_132 (by decide) ?_
        have heS : scS g9 σ = σ := by simp [scS, c_109, h59]
        have heB : scB g9 σ = false := by simp [scB, c_109, h59]
        exact wr_z (b := (scB g9 σ)) b (by rw [heB]; rfl) rfl (by rw [heS]; exact hbr) (by rw [heS]; exact hP) hS hx hb hr dX4_succeeds_133 hlk
      · have c_109 := (nz_eq c_109 (by omega))
        refine lv_iload hx hb dX4_succeeds_112 (lv_at hl 4 rfl) ?_
        refine lv_if_ne (tgt := 132) hx hb dX4_succeeds_114 (by decide) (fun c_114 => ?_) (fun c_114 => ?_)
        · have c_114 := (nz_ne c_114 (by omega))
          refine lv_iconst (v := (nI 0)) hx hb dX4_succeeds_132 (by decide) ?_
          have heS : scS g9 σ = σ := by simp [scS, c_109, c_114, h59]
          have heB : scB g9 σ = false := by simp [scB, c_109, c_114, h59]
          exact wr_z (b := (scB g9 σ)) b (by rw [heB]; rfl) rfl (by rw [heS]; exact hbr) (by rw [heS]; exact hP) hS hx hb hr dX4_succeeds_133 hlk
        · have c_114 := (nz_eq c_114 (by omega))
          refine lv_aload_n hx hb dX4_succeeds_117 rfl (lv_at hl 7 rfl) ?_
          refine lv_iload hx hb dX4_succeeds_118 (lv_at hl 1 rfl) ?_
          refine wr_call (wc := [(a 0, .inr (0, [.ref (a 1), .ref (a 4), .ref (a 6), .ref (a 8), .ref (a 9), .int (nI (σ 2)), .int (nI (σ 3)), .int (nI (σ 4)), .int (nI (σ 5)), .int (nI (σ 6)), .int (nI (σ 7))])), (a 1, .inr (2, [.ref (a 2), .ref (a 3), .int (nI (cmk σ))])), aI cy (a 2) 144 (wv σ), aI cy (a 3) 12 (b 1), (a 4, .inr (3, [.int (nI 6), .int (nI 11), .ref (a 5), .int (nI (σ 0))])), aI cy (a 5) 66 (b 2), (a 6, .inr (3, [.int (nI 20), .int (nI 6), .ref (a 7), .int (nI (σ 1))])), aI cy (a 7) 120 (b 3), aI cy (a 8) 8 (mS (pu σ)), aI cy (a 9) 6 (b 5)]) (va_runV (As := [.int (nI (g9 % 100))]) (rest := []) ⟨hx, hb, hml, hown, hts⟩ (c_X0_passHours l g cy  s.heap.size a σ b bd (nI (g9 % 100)) hwf hbr) ⟨(cB 1 hts wd17_21 wd1_12 wd27_11 rfl rfl (by decide +kernel) ⟨Nat.le_of_ble_eq_true rfl, Nat.le_of_ble_eq_true rfl⟩), hts _ wd17_19, hts _ wd17_20⟩ (pv hK hP hD hS hA hX [0, 1, 2, 3, 4, 5, 6, 7, 8, 9] rfl rfl 0 0 rfl rfl) rfl rfl hl.1 rfl (lv_room (Nat.le_of_ble_eq_true rfl)) dX4_succeeds_120 ⟨Nat.zero_le _, Nat.zero_le _⟩) hP hD hS hA [0, 1, 2, 3, 4, 5, 6, 7, 8, 9] rfl rfl (fun _ => (rfl : ([a 0, a 1, a 2, a 3, a 4, a 5, a 6, a 7, a 8, a 9] : List Nat) = [a 0, a 1, a 2, a 3, a 4, a 5, a 6, a 7, a 8, a 9])) ?_
          rintro b1_120 H locs hbr_120 hP hD hS
          have hP : va_P g vwCl [(a 0, .inr (0, [.ref (a 1), .ref (a 4), .ref (a 6), .ref (a 8), .ref (a 9), .int (nI ((hoursR σ (nI (g9 % 100))) 2)), .int (nI ((hoursR σ (nI (g9 % 100))) 3)), .int (nI ((hoursR σ (nI (g9 % 100))) 4)), .int (nI ((hoursR σ (nI (g9 % 100))) 5)), .int (nI ((hoursR σ (nI (g9 % 100))) 6)), .int (nI ((hoursR σ (nI (g9 % 100))) 7))])), (a 1, .inr (2, [.ref (a 2), .ref (a 3), .int (nI (cmk (hoursR σ (nI (g9 % 100)))))])), aI cy (a 2) 144 (wv (hoursR σ (nI (g9 % 100)))), aI cy (a 3) 12 (b1_120 1), (a 4, .inr (3, [.int (nI 6), .int (nI 11), .ref (a 5), .int (nI ((hoursR σ (nI (g9 % 100))) 0))])), aI cy (a 5) 66 (b1_120 2), (a 6, .inr (3, [.int (nI 20), .int (nI 6), .ref (a 7), .int (nI ((hoursR σ (nI (g9 % 100))) 1))])), aI cy (a 7) 120 (b1_120 3), aI cy (a 8) 8 (mS (pu (hoursR σ (nI (g9 % 100))))), aI cy (a 9) 6 (b1_120 5)] H := hP
          have hD : va_D A [(a 0, .inr (0, [.ref (a 1), .ref (a 4), .ref (a 6), .ref (a 8), .ref (a 9), .int (nI ((hoursR σ (nI (g9 % 100))) 2)), .int (nI ((hoursR σ (nI (g9 % 100))) 3)), .int (nI ((hoursR σ (nI (g9 % 100))) 4)), .int (nI ((hoursR σ (nI (g9 % 100))) 5)), .int (nI ((hoursR σ (nI (g9 % 100))) 6)), .int (nI ((hoursR σ (nI (g9 % 100))) 7))])), (a 1, .inr (2, [.ref (a 2), .ref (a 3), .int (nI (cmk (hoursR σ (nI (g9 % 100)))))])), aI cy (a 2) 144 (wv (hoursR σ (nI (g9 % 100)))), aI cy (a 3) 12 (b1_120 1), (a 4, .inr (3, [.int (nI 6), .int (nI 11), .ref (a 5), .int (nI ((hoursR σ (nI (g9 % 100))) 0))])), aI cy (a 5) 66 (b1_120 2), (a 6, .inr (3, [.int (nI 20), .int (nI 6), .ref (a 7), .int (nI ((hoursR σ (nI (g9 % 100))) 1))])), aI cy (a 7) 120 (b1_120 3), aI cy (a 8) 8 (mS (pu (hoursR σ (nI (g9 % 100))))), aI cy (a 9) 6 (b1_120 5)] := hD
          have hbr_120 : BR (hoursR σ (nI (g9 % 100))) b1_120 := hbr_120
          show W _ _ _ _ _ _ _ _ _ _ _ _ _ _ _ (F0 mX 123 ls [.int (nI (hoursA σ (nI (g9 % 100))))])
          refine ti (show (nI (hoursA σ (nI (g9 % 100)))) = (nI (hoursA σ (nI (g9 % 100)))) from rfl) ?_
          refine lv_bipush (v := (nI NN2)) hx hb dX4_succeeds_123 (by decide) ?_
          refine lv_icmp_eq (tgt := 132) hx hb dX4_succeeds_125 (by decide) (fun c_125 => ?_) (fun c_125 => ?_)
          · skip
            refine lv_iconst (v := (nI 0)) hx hb dX4_succeeds_132 (by decide) ?_
            have heS : scS g9 σ = hoursR σ (nI (g9 % 100)) := by simp [scS, c_109, c_114, c_125, h59]
            have heB : scB g9 σ = false := by simp [scB, c_109, c_114, c_125, h59]
            exact wr_z (b := (scB g9 σ)) b1_120 (by rw [heB]; rfl) rfl (by rw [heS]; exact hbr_120) (by rw [heS]; exact hP) hS hx hb hr dX4_succeeds_133 hlk
          · skip
            refine lv_iconst (v := (nI 1)) hx hb dX4_succeeds_128 (by decide) ?_
            refine lv_goto (tgt := 133) hx hb dX4_succeeds_129 (by decide) ?_
            have heS : scS g9 σ = hoursR σ (nI (g9 % 100)) := by simp [scS, c_109, c_114, c_125, h59]
            have heB : scB g9 σ = true := by simp [scB, c_109, c_114, c_125, h59]
            exact wr_z (b := (scB g9 σ)) b1_120 (by rw [heB]; rfl) rfl (by rw [heS]; exact hbr_120) (by rw [heS]; exact hP) hS hx hb hr dX4_succeeds_133 hlk
    · have c_59 : (nI (g9 / 100000)) = nI 2 := c_59
      refine lv_tableIn (tgt := 134) (off := 75) hx hb dX4_succeeds_59 (by rw [c_59]; decide) (by rw [c_59]; decide) (by rw [c_59]; decide) (by decide) ?_
      have h59 : g9 / 100000 = 2 := nc_eq (by omega) (by decide) c_59
      refine lv_iload hx hb dX4_succeeds_134 (lv_at hl 3 rfl) ?_
      refine lv_bipush (v := (nI 8)) hx hb dX4_succeeds_136 (by decide) ?_
      refine lv_icmp_ge (tgt := 166) hx hb dX4_succeeds_138 (by decide) (fun c_138 => ?_) (fun c_138 => ?_)
      · have c_138 := (nc_le (by omega) (by omega) c_138)
        refine lv_iconst (v := (nI 0)) hx hb dX4_succeeds_166 (by decide) ?_
        have heS : scS g9 σ = σ := by simp [scS, Nat.not_lt.mpr c_138, h59]
        have heB : scB g9 σ = false := by simp [scB, Nat.not_lt.mpr c_138, h59]
        exact wr_z (b := (scB g9 σ)) b (by rw [heB]; rfl) rfl (by rw [heS]; exact hbr) (by rw [heS]; exact hP) hS hx hb hr dX4_succeeds_167 hlk
      · have c_138 := (nc_nle (by omega) (by omega) c_138)
        refine lv_iload hx hb dX4_succeeds_141 (lv_at hl 2 rfl) ?_
        refine lv_if_ne (tgt := 166) hx hb dX4_succeeds_143 (by decide) (fun c_143 => ?_) (fun c_143 => ?_)
        · have c_143 := (nz_ne c_143 (by omega))
          refine lv_iconst (v := (nI 0)) hx hb dX4_succeeds_166 (by decide) ?_
          have heS : scS g9 σ = σ := by simp [scS, c_138, c_143, h59]
          have heB : scB g9 σ = false := by simp [scB, c_138, c_143, h59]
          exact wr_z (b := (scB g9 σ)) b (by rw [heB]; rfl) rfl (by rw [heS]; exact hbr) (by rw [heS]; exact hP) hS hx hb hr dX4_succeeds_167 hlk
        · have c_143 := (nz_eq c_143 (by omega))
          refine lv_aload_n hx hb dX4_succeeds_146 rfl (lv_at hl 7 rfl) ?_
          refine lv_iload_n hx hb dX4_succeeds_147 rfl (lv_at hl 6 rfl) ?_
          refine lv_iload hx hb dX4_succeeds_148 (lv_at hl 4 rfl) ?_
          refine lv_iconst (v := (nI 1)) hx hb dX4_succeeds_150 (by decide) ?_
          refine lv_iload hx hb dX4_succeeds_151 (lv_at hl 3 rfl) ?_
          refine lv_ishl hx hb dX4_succeeds_153 ?_
          refine ti (nb_shl (k := ((g9 / 10) % 10)) (by omega)) ?_
          refine lv_iconst (v := (nI 0)) hx hb dX4_succeeds_154 (by decide) ?_
          refine lv_iconst (v := (nI 0)) hx hb dX4_succeeds_155 (by decide) ?_
          refine ti (show (nI 0) = (bI false) from rfl) ?_
          refine wr_call (wc := [(a 0, .inr (0, [.ref (a 1), .ref (a 4), .ref (a 6), .ref (a 8), .ref (a 9), .int (nI (σ 2)), .int (nI (σ 3)), .int (nI (σ 4)), .int (nI (σ 5)), .int (nI (σ 6)), .int (nI (σ 7))])), (a 1, .inr (2, [.ref (a 2), .ref (a 3), .int (nI (cmk σ))])), aI cy (a 2) 144 (wv σ), aI cy (a 3) 12 (b 1), (a 4, .inr (3, [.int (nI 6), .int (nI 11), .ref (a 5), .int (nI (σ 0))])), aI cy (a 5) 66 (b 2), (a 6, .inr (3, [.int (nI 20), .int (nI 6), .ref (a 7), .int (nI (σ 1))])), aI cy (a 7) 120 (b 3), aI cy (a 8) 8 (mS (pu σ)), aI cy (a 9) 6 (b 5)]) (va_runV (As := [.int (nI ((g9 / 10000) % 10)), .int (nI ((g9 / 100) % 100)), .int (nI (2 ^ ((g9 / 10) % 10))), .int (nI 0), .int (bI false)]) (rest := []) ⟨hx, hb, hml, hown, hts⟩ (c_X0_tellSighting l g cy  s.heap.size a σ b bd (nI ((g9 / 10000) % 10)) (nI ((g9 / 100) % 100)) (nI (2 ^ ((g9 / 10) % 10))) (nI 0) false hwf hbr) ⟨(cB 5 hts wd13_1 wd1_12 wd27_12 rfl rfl (by decide +kernel) ⟨Nat.le_of_ble_eq_true rfl, Nat.le_of_ble_eq_true rfl⟩), hts _ wd12_23, hts _ wd13_0⟩ (pv hK hP hD hS hA hX [0, 1, 2, 3, 4, 5, 6, 7, 8, 9] rfl rfl 0 0 rfl rfl) rfl rfl hl.1 rfl (lv_room (Nat.le_of_ble_eq_true rfl)) dX4_succeeds_156 ⟨Nat.zero_le _, Nat.zero_le _⟩) hP hD hS hA [0, 1, 2, 3, 4, 5, 6, 7, 8, 9] rfl rfl (fun _ => (rfl : ([a 0, a 1, a 2, a 3, a 4, a 5, a 6, a 7, a 8, a 9] : List Nat) = [a 0, a 1, a 2, a 3, a 4, a 5, a 6, a 7, a 8, a 9])) ?_
          rintro b1_156 H locs hbr_156 hP hD hS
          have hP : va_P g vwCl [(a 0, .inr (0, [.ref (a 1), .ref (a 4), .ref (a 6), .ref (a 8), .ref (a 9), .int (nI ((sightR σ (nI ((g9 / 10000) % 10)) (nI ((g9 / 100) % 100)) (nI (2 ^ ((g9 / 10) % 10))) (nI 0) false) 2)), .int (nI ((sightR σ (nI ((g9 / 10000) % 10)) (nI ((g9 / 100) % 100)) (nI (2 ^ ((g9 / 10) % 10))) (nI 0) false) 3)), .int (nI ((sightR σ (nI ((g9 / 10000) % 10)) (nI ((g9 / 100) % 100)) (nI (2 ^ ((g9 / 10) % 10))) (nI 0) false) 4)), .int (nI ((sightR σ (nI ((g9 / 10000) % 10)) (nI ((g9 / 100) % 100)) (nI (2 ^ ((g9 / 10) % 10))) (nI 0) false) 5)), .int (nI ((sightR σ (nI ((g9 / 10000) % 10)) (nI ((g9 / 100) % 100)) (nI (2 ^ ((g9 / 10) % 10))) (nI 0) false) 6)), .int (nI ((sightR σ (nI ((g9 / 10000) % 10)) (nI ((g9 / 100) % 100)) (nI (2 ^ ((g9 / 10) % 10))) (nI 0) false) 7))])), (a 1, .inr (2, [.ref (a 2), .ref (a 3), .int (nI (cmk (sightR σ (nI ((g9 / 10000) % 10)) (nI ((g9 / 100) % 100)) (nI (2 ^ ((g9 / 10) % 10))) (nI 0) false)))])), aI cy (a 2) 144 (wv (sightR σ (nI ((g9 / 10000) % 10)) (nI ((g9 / 100) % 100)) (nI (2 ^ ((g9 / 10) % 10))) (nI 0) false)), aI cy (a 3) 12 (b1_156 1), (a 4, .inr (3, [.int (nI 6), .int (nI 11), .ref (a 5), .int (nI ((sightR σ (nI ((g9 / 10000) % 10)) (nI ((g9 / 100) % 100)) (nI (2 ^ ((g9 / 10) % 10))) (nI 0) false) 0))])), aI cy (a 5) 66 (b1_156 2), (a 6, .inr (3, [.int (nI 20), .int (nI 6), .ref (a 7), .int (nI ((sightR σ (nI ((g9 / 10000) % 10)) (nI ((g9 / 100) % 100)) (nI (2 ^ ((g9 / 10) % 10))) (nI 0) false) 1))])), aI cy (a 7) 120 (b1_156 3), aI cy (a 8) 8 (mS (pu (sightR σ (nI ((g9 / 10000) % 10)) (nI ((g9 / 100) % 100)) (nI (2 ^ ((g9 / 10) % 10))) (nI 0) false))), aI cy (a 9) 6 (b1_156 5)] H := hP
          have hD : va_D A [(a 0, .inr (0, [.ref (a 1), .ref (a 4), .ref (a 6), .ref (a 8), .ref (a 9), .int (nI ((sightR σ (nI ((g9 / 10000) % 10)) (nI ((g9 / 100) % 100)) (nI (2 ^ ((g9 / 10) % 10))) (nI 0) false) 2)), .int (nI ((sightR σ (nI ((g9 / 10000) % 10)) (nI ((g9 / 100) % 100)) (nI (2 ^ ((g9 / 10) % 10))) (nI 0) false) 3)), .int (nI ((sightR σ (nI ((g9 / 10000) % 10)) (nI ((g9 / 100) % 100)) (nI (2 ^ ((g9 / 10) % 10))) (nI 0) false) 4)), .int (nI ((sightR σ (nI ((g9 / 10000) % 10)) (nI ((g9 / 100) % 100)) (nI (2 ^ ((g9 / 10) % 10))) (nI 0) false) 5)), .int (nI ((sightR σ (nI ((g9 / 10000) % 10)) (nI ((g9 / 100) % 100)) (nI (2 ^ ((g9 / 10) % 10))) (nI 0) false) 6)), .int (nI ((sightR σ (nI ((g9 / 10000) % 10)) (nI ((g9 / 100) % 100)) (nI (2 ^ ((g9 / 10) % 10))) (nI 0) false) 7))])), (a 1, .inr (2, [.ref (a 2), .ref (a 3), .int (nI (cmk (sightR σ (nI ((g9 / 10000) % 10)) (nI ((g9 / 100) % 100)) (nI (2 ^ ((g9 / 10) % 10))) (nI 0) false)))])), aI cy (a 2) 144 (wv (sightR σ (nI ((g9 / 10000) % 10)) (nI ((g9 / 100) % 100)) (nI (2 ^ ((g9 / 10) % 10))) (nI 0) false)), aI cy (a 3) 12 (b1_156 1), (a 4, .inr (3, [.int (nI 6), .int (nI 11), .ref (a 5), .int (nI ((sightR σ (nI ((g9 / 10000) % 10)) (nI ((g9 / 100) % 100)) (nI (2 ^ ((g9 / 10) % 10))) (nI 0) false) 0))])), aI cy (a 5) 66 (b1_156 2), (a 6, .inr (3, [.int (nI 20), .int (nI 6), .ref (a 7), .int (nI ((sightR σ (nI ((g9 / 10000) % 10)) (nI ((g9 / 100) % 100)) (nI (2 ^ ((g9 / 10) % 10))) (nI 0) false) 1))])), aI cy (a 7) 120 (b1_156 3), aI cy (a 8) 8 (mS (pu (sightR σ (nI ((g9 / 10000) % 10)) (nI ((g9 / 100) % 100)) (nI (2 ^ ((g9 / 10) % 10))) (nI 0) false))), aI cy (a 9) 6 (b1_156 5)] := hD
          have hbr_156 : BR (sightR σ (nI ((g9 / 10000) % 10)) (nI ((g9 / 100) % 100)) (nI (2 ^ ((g9 / 10) % 10))) (nI 0) false) b1_156 := hbr_156
          show W _ _ _ _ _ _ _ _ _ _ _ _ _ _ _ (F0 mX 159 ls [.int (nI (sightA σ (nI ((g9 / 10000) % 10)) (nI ((g9 / 100) % 100)) (nI (2 ^ ((g9 / 10) % 10))) (nI 0)))])
          refine ti (show (nI (sightA σ (nI ((g9 / 10000) % 10)) (nI ((g9 / 100) % 100)) (nI (2 ^ ((g9 / 10) % 10))) (nI 0))) = (nI (sightA σ (nI (g9 / 10000 % 10)) (nI (g9 / 100 % 100)) (nI (2 ^ (g9 / 10 % 10))) (nI 0))) from rfl) ?_
          refine lv_if_lt (tgt := 166) hx hb dX4_succeeds_159 (by decide) (fun c_159 => ?_) (fun c_159 => ?_)
          · skip
            refine lv_iconst (v := (nI 0)) hx hb dX4_succeeds_166 (by decide) ?_
            have heS : scS g9 σ = sightR σ (nI ((g9 / 10000) % 10)) (nI ((g9 / 100) % 100)) (nI (2 ^ ((g9 / 10) % 10))) (nI 0) false := by simp [scS, c_138, c_143, c_159, h59]
            have heB : scB g9 σ = false := by simp [scB, c_138, c_143, c_159, h59]
            exact wr_z (b := (scB g9 σ)) b1_156 (by rw [heB]; rfl) rfl (by rw [heS]; exact hbr_156) (by rw [heS]; exact hP) hS hx hb hr dX4_succeeds_167 hlk
          · skip
            refine lv_iconst (v := (nI 1)) hx hb dX4_succeeds_162 (by decide) ?_
            refine lv_goto (tgt := 167) hx hb dX4_succeeds_163 (by decide) ?_
            have heS : scS g9 σ = sightR σ (nI ((g9 / 10000) % 10)) (nI ((g9 / 100) % 100)) (nI (2 ^ ((g9 / 10) % 10))) (nI 0) false := by simp [scS, c_138, c_143, c_159, h59]
            have heB : scB g9 σ = true := by simp [scB, c_138, c_143, c_159, h59]
            exact wr_z (b := (scB g9 σ)) b1_156 (by rw [heB]; rfl) rfl (by rw [heS]; exact hbr_156) (by rw [heS]; exact hP) hS hx hb hr dX4_succeeds_167 hlk
    · have c_59 : (nI (g9 / 100000)) = nI 3 := c_59
      refine lv_tableIn (tgt := 168) (off := 109) hx hb dX4_succeeds_59 (by rw [c_59]; decide) (by rw [c_59]; decide) (by rw [c_59]; decide) (by decide) ?_
      have h59 : g9 / 100000 = 3 := nc_eq (by omega) (by decide) c_59
      refine lv_iload hx hb dX4_succeeds_168 (lv_at hl 2 rfl) ?_
      refine lv_if_ne (tgt := 195) hx hb dX4_succeeds_170 (by decide) (fun c_170 => ?_) (fun c_170 => ?_)
      · have c_170 := (nz_ne c_170 (by omega))
        refine lv_iconst (v := (nI 0)) hx hb dX4_succeeds_195 (by decide) ?_
        have heS : scS g9 σ = σ := by simp [scS, c_170, h59]
        have heB : scB g9 σ = false := by simp [scB, c_170, h59]
        exact wr_z (b := (scB g9 σ)) b (by rw [heB]; rfl) rfl (by rw [heS]; exact hbr) (by rw [heS]; exact hP) hS hx hb hr dX4_succeeds_196 hlk
      · have c_170 := (nz_eq c_170 (by omega))
        refine lv_aload_n hx hb dX4_succeeds_173 rfl (lv_at hl 7 rfl) ?_
        refine lv_iload_n hx hb dX4_succeeds_174 rfl (lv_at hl 6 rfl) ?_
        refine lv_iload_n hx hb dX4_succeeds_175 rfl (lv_at hl 5 rfl) ?_
        refine lv_iload_n hx hb dX4_succeeds_176 rfl (lv_at hl 8 rfl) ?_
        refine lv_bipush (v := (nI 10)) hx hb dX4_succeeds_177 (by decide) ?_
        refine lv_idiv hx hb dX4_succeeds_179 (nI_ne0 (by omega) (by omega)) ?_
        refine ti (pk_div (a := g9) (d := 10) (by omega) (by omega) (by omega)) ?_
        refine lv_bipush (v := (nI 100)) hx hb dX4_succeeds_180 (by decide) ?_
        refine lv_irem hx hb dX4_succeeds_182 (nI_ne0 (by omega) (by omega)) ?_
        refine ti (pk_rem (a := (g9 / 10)) (d := 100) (by omega) (by omega) (by omega)) ?_
        refine wr_call (wc := [(a 0, .inr (0, [.ref (a 1), .ref (a 4), .ref (a 6), .ref (a 8), .ref (a 9), .int (nI (σ 2)), .int (nI (σ 3)), .int (nI (σ 4)), .int (nI (σ 5)), .int (nI (σ 6)), .int (nI (σ 7))])), (a 1, .inr (2, [.ref (a 2), .ref (a 3), .int (nI (cmk σ))])), aI cy (a 2) 144 (wv σ), aI cy (a 3) 12 (b 1), (a 4, .inr (3, [.int (nI 6), .int (nI 11), .ref (a 5), .int (nI (σ 0))])), aI cy (a 5) 66 (b 2), (a 6, .inr (3, [.int (nI 20), .int (nI 6), .ref (a 7), .int (nI (σ 1))])), aI cy (a 7) 120 (b 3), aI cy (a 8) 8 (mS (pu σ)), aI cy (a 9) 6 (b 5)]) (va_runV (As := [.int (nI ((g9 / 10000) % 10)), .int (nI ((g9 / 1000) % 10)), .int (nI ((g9 / 10) % 100))]) (rest := []) ⟨hx, hb, hml, hown, hts⟩ (c_X0_findDog l g cy  s.heap.size a σ b bd (nI ((g9 / 10000) % 10)) (nI ((g9 / 1000) % 10)) (nI ((g9 / 10) % 100)) hwf hbr) ⟨(cB 3 hts wd14_18 wd1_12 wd27_13 rfl rfl (by decide +kernel) ⟨Nat.le_of_ble_eq_true rfl, Nat.le_of_ble_eq_true rfl⟩), hts _ wd14_16, hts _ wd14_17⟩ (pv hK hP hD hS hA hX [0, 1, 2, 3, 4, 5, 6, 7, 8, 9] rfl rfl 0 0 rfl rfl) rfl rfl hl.1 rfl (lv_room (Nat.le_of_ble_eq_true rfl)) dX4_succeeds_183 ⟨Nat.zero_le _, Nat.zero_le _⟩) hP hD hS hA [0, 1, 2, 3, 4, 5, 6, 7, 8, 9] rfl rfl (fun _ => (rfl : ([a 0, a 1, a 2, a 3, a 4, a 5, a 6, a 7, a 8, a 9] : List Nat) = [a 0, a 1, a 2, a 3, a 4, a 5, a 6, a 7, a 8, a 9])) ?_
        rintro b1_183 H locs hbr_183 hP hD hS
        have hP : va_P g vwCl [(a 0, .inr (0, [.ref (a 1), .ref (a 4), .ref (a 6), .ref (a 8), .ref (a 9), .int (nI ((findR σ (nI ((g9 / 10000) % 10)) (nI ((g9 / 1000) % 10)) (nI ((g9 / 10) % 100))) 2)), .int (nI ((findR σ (nI ((g9 / 10000) % 10)) (nI ((g9 / 1000) % 10)) (nI ((g9 / 10) % 100))) 3)), .int (nI ((findR σ (nI ((g9 / 10000) % 10)) (nI ((g9 / 1000) % 10)) (nI ((g9 / 10) % 100))) 4)), .int (nI ((findR σ (nI ((g9 / 10000) % 10)) (nI ((g9 / 1000) % 10)) (nI ((g9 / 10) % 100))) 5)), .int (nI ((findR σ (nI ((g9 / 10000) % 10)) (nI ((g9 / 1000) % 10)) (nI ((g9 / 10) % 100))) 6)), .int (nI ((findR σ (nI ((g9 / 10000) % 10)) (nI ((g9 / 1000) % 10)) (nI ((g9 / 10) % 100))) 7))])), (a 1, .inr (2, [.ref (a 2), .ref (a 3), .int (nI (cmk (findR σ (nI ((g9 / 10000) % 10)) (nI ((g9 / 1000) % 10)) (nI ((g9 / 10) % 100)))))])), aI cy (a 2) 144 (wv (findR σ (nI ((g9 / 10000) % 10)) (nI ((g9 / 1000) % 10)) (nI ((g9 / 10) % 100)))), aI cy (a 3) 12 (b1_183 1), (a 4, .inr (3, [.int (nI 6), .int (nI 11), .ref (a 5), .int (nI ((findR σ (nI ((g9 / 10000) % 10)) (nI ((g9 / 1000) % 10)) (nI ((g9 / 10) % 100))) 0))])), aI cy (a 5) 66 (b1_183 2), (a 6, .inr (3, [.int (nI 20), .int (nI 6), .ref (a 7), .int (nI ((findR σ (nI ((g9 / 10000) % 10)) (nI ((g9 / 1000) % 10)) (nI ((g9 / 10) % 100))) 1))])), aI cy (a 7) 120 (b1_183 3), aI cy (a 8) 8 (mS (pu (findR σ (nI ((g9 / 10000) % 10)) (nI ((g9 / 1000) % 10)) (nI ((g9 / 10) % 100))))), aI cy (a 9) 6 (b1_183 5)] H := hP
        have hD : va_D A [(a 0, .inr (0, [.ref (a 1), .ref (a 4), .ref (a 6), .ref (a 8), .ref (a 9), .int (nI ((findR σ (nI ((g9 / 10000) % 10)) (nI ((g9 / 1000) % 10)) (nI ((g9 / 10) % 100))) 2)), .int (nI ((findR σ (nI ((g9 / 10000) % 10)) (nI ((g9 / 1000) % 10)) (nI ((g9 / 10) % 100))) 3)), .int (nI ((findR σ (nI ((g9 / 10000) % 10)) (nI ((g9 / 1000) % 10)) (nI ((g9 / 10) % 100))) 4)), .int (nI ((findR σ (nI ((g9 / 10000) % 10)) (nI ((g9 / 1000) % 10)) (nI ((g9 / 10) % 100))) 5)), .int (nI ((findR σ (nI ((g9 / 10000) % 10)) (nI ((g9 / 1000) % 10)) (nI ((g9 / 10) % 100))) 6)), .int (nI ((findR σ (nI ((g9 / 10000) % 10)) (nI ((g9 / 1000) % 10)) (nI ((g9 / 10) % 100))) 7))])), (a 1, .inr (2, [.ref (a 2), .ref (a 3), .int (nI (cmk (findR σ (nI ((g9 / 10000) % 10)) (nI ((g9 / 1000) % 10)) (nI ((g9 / 10) % 100)))))])), aI cy (a 2) 144 (wv (findR σ (nI ((g9 / 10000) % 10)) (nI ((g9 / 1000) % 10)) (nI ((g9 / 10) % 100)))), aI cy (a 3) 12 (b1_183 1), (a 4, .inr (3, [.int (nI 6), .int (nI 11), .ref (a 5), .int (nI ((findR σ (nI ((g9 / 10000) % 10)) (nI ((g9 / 1000) % 10)) (nI ((g9 / 10) % 100))) 0))])), aI cy (a 5) 66 (b1_183 2), (a 6, .inr (3, [.int (nI 20), .int (nI 6), .ref (a 7), .int (nI ((findR σ (nI ((g9 / 10000) % 10)) (nI ((g9 / 1000) % 10)) (nI ((g9 / 10) % 100))) 1))])), aI cy (a 7) 120 (b1_183 3), aI cy (a 8) 8 (mS (pu (findR σ (nI ((g9 / 10000) % 10)) (nI ((g9 / 1000) % 10)) (nI ((g9 / 10) % 100))))), aI cy (a 9) 6 (b1_183 5)] := hD
        have hbr_183 : BR (findR σ (nI ((g9 / 10000) % 10)) (nI ((g9 / 1000) % 10)) (nI ((g9 / 10) % 100))) b1_183 := hbr_183
        show W _ _ _ _ _ _ _ _ _ _ _ _ _ _ _ (F0 mX 186 ls [.int (nI (findA σ (nI ((g9 / 10000) % 10)) (nI ((g9 / 1000) % 10)) (nI ((g9 / 10) % 100))))])
        refine ti (show (nI (findA σ (nI ((g9 / 10000) % 10)) (nI ((g9 / 1000) % 10)) (nI ((g9 / 10) % 100)))) = (nI (findA σ (nI (g9 / 10000 % 10)) (nI (g9 / 1000 % 10)) (nI (g9 / 10 % 100)))) from rfl) ?_
        refine lv_bipush (v := (nI NN2)) hx hb dX4_succeeds_186 (by decide) ?_
        refine lv_icmp_eq (tgt := 195) hx hb dX4_succeeds_188 (by decide) (fun c_188 => ?_) (fun c_188 => ?_)
        · skip
          refine lv_iconst (v := (nI 0)) hx hb dX4_succeeds_195 (by decide) ?_
          have heS : scS g9 σ = findR σ (nI ((g9 / 10000) % 10)) (nI ((g9 / 1000) % 10)) (nI ((g9 / 10) % 100)) := by simp [scS, c_170, c_188, h59]
          have heB : scB g9 σ = false := by simp [scB, c_170, c_188, h59]
          exact wr_z (b := (scB g9 σ)) b1_183 (by rw [heB]; rfl) rfl (by rw [heS]; exact hbr_183) (by rw [heS]; exact hP) hS hx hb hr dX4_succeeds_196 hlk
        · skip
          refine lv_iconst (v := (nI 1)) hx hb dX4_succeeds_191 (by decide) ?_
          refine lv_goto (tgt := 196) hx hb dX4_succeeds_192 (by decide) ?_
          have heS : scS g9 σ = findR σ (nI ((g9 / 10000) % 10)) (nI ((g9 / 1000) % 10)) (nI ((g9 / 10) % 100)) := by simp [scS, c_170, c_188, h59]
          have heB : scB g9 σ = true := by simp [scB, c_170, c_188, h59]
          exact wr_z (b := (scB g9 σ)) b1_183 (by rw [heB]; rfl) rfl (by rw [heS]; exact hbr_183) (by rw [heS]; exact hP) hS hx hb hr dX4_succeeds_196 hlk
    · have c_59 : (nI (g9 / 100000)) = nI 4 := c_59
      refine lv_tableIn (tgt := 197) (off := 138) hx hb dX4_succeeds_59 (by rw [c_59]; decide) (by rw [c_59]; decide) (by rw [c_59]; decide) (by decide) ?_
      have h59 : g9 / 100000 = 4 := nc_eq (by omega) (by decide) c_59
      refine lv_iload hx hb dX4_succeeds_197 (lv_at hl 2 rfl) ?_
      refine lv_iconst (v := (nI 1)) hx hb dX4_succeeds_199 (by decide) ?_
      refine lv_icmp_gt (tgt := 242) hx hb dX4_succeeds_200 (by decide) (fun c_200 => ?_) (fun c_200 => ?_)
      · have c_200 := (nc_lt (by omega) (by omega) c_200)
        refine lv_iconst (v := (nI 0)) hx hb dX4_succeeds_242 (by decide) ?_
        have heS : scS g9 σ = σ := by simp [scS, Nat.not_le.mpr c_200, h59]
        have heB : scB g9 σ = false := by simp [scB, Nat.not_le.mpr c_200, h59]
        exact wr_z (b := (scB g9 σ)) b (by rw [heB]; rfl) rfl (by rw [heS]; exact hbr) (by rw [heS]; exact hP) hS hx hb hr dX4_succeeds_243 hlk
      · have c_200 := (nc_nlt (by omega) (by omega) c_200)
        refine lv_aload_n hx hb dX4_succeeds_203 rfl (lv_at hl 7 rfl) ?_
        refine lv_iload_n hx hb dX4_succeeds_204 rfl (lv_at hl 8 rfl) ?_
        refine lv_sipush (v := (nI 1000)) hx hb dX4_succeeds_205 (by decide) ?_
        refine lv_idiv hx hb dX4_succeeds_208 (nI_ne0 (by omega) (by omega)) ?_
        refine ti (pk_div (a := g9) (d := 1000) (by omega) (by omega) (by omega)) ?_
        refine lv_bipush (v := (nI 100)) hx hb dX4_succeeds_209 (by decide) ?_
        refine lv_irem hx hb dX4_succeeds_211 (nI_ne0 (by omega) (by omega)) ?_
        refine ti (pk_rem (a := (g9 / 1000)) (d := 100) (by omega) (by omega) (by omega)) ?_
        refine lv_iload_n hx hb dX4_succeeds_212 rfl (lv_at hl 8 rfl) ?_
        refine lv_bipush (v := (nI 10)) hx hb dX4_succeeds_213 (by decide) ?_
        refine lv_idiv hx hb dX4_succeeds_215 (nI_ne0 (by omega) (by omega)) ?_
        refine ti (pk_div (a := g9) (d := 10) (by omega) (by omega) (by omega)) ?_
        refine lv_bipush (v := (nI 100)) hx hb dX4_succeeds_216 (by decide) ?_
        refine lv_irem hx hb dX4_succeeds_218 (nI_ne0 (by omega) (by omega)) ?_
        refine ti (pk_rem (a := (g9 / 10)) (d := 100) (by omega) (by omega) (by omega)) ?_
        refine jn_i (pcj := 230) (ls := ls) (st := [.int (nI ((g9 / 10) % 100)), .int (nI ((g9 / 1000) % 100)), .ref (a 0)]) (fun v9 => v9 = (bI (decide (g9 % 10 = 1)))) ?_ (fun jn230 => ?_)
        · intro v9 hv9
          subst hv9
          refine wr_call (wc := [(a 0, .inr (0, [.ref (a 1), .ref (a 4), .ref (a 6), .ref (a 8), .ref (a 9), .int (nI (σ 2)), .int (nI (σ 3)), .int (nI (σ 4)), .int (nI (σ 5)), .int (nI (σ 6)), .int (nI (σ 7))])), (a 1, .inr (2, [.ref (a 2), .ref (a 3), .int (nI (cmk σ))])), aI cy (a 2) 144 (wv σ), aI cy (a 3) 12 (b 1), (a 4, .inr (3, [.int (nI 6), .int (nI 11), .ref (a 5), .int (nI (σ 0))])), aI cy (a 5) 66 (b 2), (a 6, .inr (3, [.int (nI 20), .int (nI 6), .ref (a 7), .int (nI (σ 1))])), aI cy (a 7) 120 (b 3), aI cy (a 8) 8 (mS (pu σ)), aI cy (a 9) 6 (b 5)]) (va_runV (As := [.int (nI ((g9 / 1000) % 100)), .int (nI ((g9 / 10) % 100)), .int (bI (decide (g9 % 10 = 1)))]) (rest := []) ⟨hx, hb, hml, hown, hts⟩ (c_X0_closeStreet l g cy  s.heap.size a σ b bd (nI ((g9 / 1000) % 100)) (nI ((g9 / 10) % 100)) (decide (g9 % 10 = 1)) hwf hbr) ⟨(cB 3 hts wd17_1 wd1_12 wd27_14 rfl rfl (by decide +kernel) ⟨Nat.le_of_ble_eq_true rfl, Nat.le_of_ble_eq_true rfl⟩), hts _ wd16_23, hts _ wd17_0⟩ (pv hK hP hD hS hA hX [0, 1, 2, 3, 4, 5, 6, 7, 8, 9] rfl rfl 0 0 rfl rfl) rfl rfl hl.1 rfl (lv_room (Nat.le_of_ble_eq_true rfl)) dX4_succeeds_230 ⟨Nat.zero_le _, Nat.zero_le _⟩) hP hD hS hA [0, 1, 2, 3, 4, 5, 6, 7, 8, 9] rfl rfl (fun _ => (rfl : ([a 0, a 1, a 2, a 3, a 4, a 5, a 6, a 7, a 8, a 9] : List Nat) = [a 0, a 1, a 2, a 3, a 4, a 5, a 6, a 7, a 8, a 9])) ?_
          rintro b1_230 H locs hbr_230 hP hD hS
          have hP : va_P g vwCl [(a 0, .inr (0, [.ref (a 1), .ref (a 4), .ref (a 6), .ref (a 8), .ref (a 9), .int (nI ((closeR σ (nI ((g9 / 1000) % 100)) (nI ((g9 / 10) % 100)) (decide (g9 % 10 = 1))) 2)), .int (nI ((closeR σ (nI ((g9 / 1000) % 100)) (nI ((g9 / 10) % 100)) (decide (g9 % 10 = 1))) 3)), .int (nI ((closeR σ (nI ((g9 / 1000) % 100)) (nI ((g9 / 10) % 100)) (decide (g9 % 10 = 1))) 4)), .int (nI ((closeR σ (nI ((g9 / 1000) % 100)) (nI ((g9 / 10) % 100)) (decide (g9 % 10 = 1))) 5)), .int (nI ((closeR σ (nI ((g9 / 1000) % 100)) (nI ((g9 / 10) % 100)) (decide (g9 % 10 = 1))) 6)), .int (nI ((closeR σ (nI ((g9 / 1000) % 100)) (nI ((g9 / 10) % 100)) (decide (g9 % 10 = 1))) 7))])), (a 1, .inr (2, [.ref (a 2), .ref (a 3), .int (nI (cmk (closeR σ (nI ((g9 / 1000) % 100)) (nI ((g9 / 10) % 100)) (decide (g9 % 10 = 1)))))])), aI cy (a 2) 144 (wv (closeR σ (nI ((g9 / 1000) % 100)) (nI ((g9 / 10) % 100)) (decide (g9 % 10 = 1)))), aI cy (a 3) 12 (b1_230 1), (a 4, .inr (3, [.int (nI 6), .int (nI 11), .ref (a 5), .int (nI ((closeR σ (nI ((g9 / 1000) % 100)) (nI ((g9 / 10) % 100)) (decide (g9 % 10 = 1))) 0))])), aI cy (a 5) 66 (b1_230 2), (a 6, .inr (3, [.int (nI 20), .int (nI 6), .ref (a 7), .int (nI ((closeR σ (nI ((g9 / 1000) % 100)) (nI ((g9 / 10) % 100)) (decide (g9 % 10 = 1))) 1))])), aI cy (a 7) 120 (b1_230 3), aI cy (a 8) 8 (mS (pu (closeR σ (nI ((g9 / 1000) % 100)) (nI ((g9 / 10) % 100)) (decide (g9 % 10 = 1))))), aI cy (a 9) 6 (b1_230 5)] H := hP
          have hD : va_D A [(a 0, .inr (0, [.ref (a 1), .ref (a 4), .ref (a 6), .ref (a 8), .ref (a 9), .int (nI ((closeR σ (nI ((g9 / 1000) % 100)) (nI ((g9 / 10) % 100)) (decide (g9 % 10 = 1))) 2)), .int (nI ((closeR σ (nI ((g9 / 1000) % 100)) (nI ((g9 / 10) % 100)) (decide (g9 % 10 = 1))) 3)), .int (nI ((closeR σ (nI ((g9 / 1000) % 100)) (nI ((g9 / 10) % 100)) (decide (g9 % 10 = 1))) 4)), .int (nI ((closeR σ (nI ((g9 / 1000) % 100)) (nI ((g9 / 10) % 100)) (decide (g9 % 10 = 1))) 5)), .int (nI ((closeR σ (nI ((g9 / 1000) % 100)) (nI ((g9 / 10) % 100)) (decide (g9 % 10 = 1))) 6)), .int (nI ((closeR σ (nI ((g9 / 1000) % 100)) (nI ((g9 / 10) % 100)) (decide (g9 % 10 = 1))) 7))])), (a 1, .inr (2, [.ref (a 2), .ref (a 3), .int (nI (cmk (closeR σ (nI ((g9 / 1000) % 100)) (nI ((g9 / 10) % 100)) (decide (g9 % 10 = 1)))))])), aI cy (a 2) 144 (wv (closeR σ (nI ((g9 / 1000) % 100)) (nI ((g9 / 10) % 100)) (decide (g9 % 10 = 1)))), aI cy (a 3) 12 (b1_230 1), (a 4, .inr (3, [.int (nI 6), .int (nI 11), .ref (a 5), .int (nI ((closeR σ (nI ((g9 / 1000) % 100)) (nI ((g9 / 10) % 100)) (decide (g9 % 10 = 1))) 0))])), aI cy (a 5) 66 (b1_230 2), (a 6, .inr (3, [.int (nI 20), .int (nI 6), .ref (a 7), .int (nI ((closeR σ (nI ((g9 / 1000) % 100)) (nI ((g9 / 10) % 100)) (decide (g9 % 10 = 1))) 1))])), aI cy (a 7) 120 (b1_230 3), aI cy (a 8) 8 (mS (pu (closeR σ (nI ((g9 / 1000) % 100)) (nI ((g9 / 10) % 100)) (decide (g9 % 10 = 1))))), aI cy (a 9) 6 (b1_230 5)] := hD
          have hbr_230 : BR (closeR σ (nI ((g9 / 1000) % 100)) (nI ((g9 / 10) % 100)) (decide (g9 % 10 = 1))) b1_230 := hbr_230
          show W _ _ _ _ _ _ _ _ _ _ _ _ _ _ _ (F0 mX 233 ls [.int (nI (closeA σ (nI ((g9 / 1000) % 100)) (nI ((g9 / 10) % 100)) (decide (g9 % 10 = 1))))])
          refine ti (show (nI (closeA σ (nI ((g9 / 1000) % 100)) (nI ((g9 / 10) % 100)) (decide (g9 % 10 = 1)))) = (nI (closeA σ (nI (g9 / 1000 % 100)) (nI (g9 / 10 % 100)) (decide (g9 % 10 = 1)))) from rfl) ?_
          refine lv_bipush (v := (nI NN2)) hx hb dX4_succeeds_233 (by decide) ?_
          refine lv_icmp_eq (tgt := 242) hx hb dX4_succeeds_235 (by decide) (fun c_235 => ?_) (fun c_235 => ?_)
          · skip
            refine lv_iconst (v := (nI 0)) hx hb dX4_succeeds_242 (by decide) ?_
            have heS : scS g9 σ = closeR σ (nI ((g9 / 1000) % 100)) (nI ((g9 / 10) % 100)) (decide (g9 % 10 = 1)) := by simp [scS, c_200, c_235, h59]
            have heB : scB g9 σ = false := by simp [scB, c_200, c_235, h59]
            exact wr_z (b := (scB g9 σ)) b1_230 (by rw [heB]; rfl) rfl (by rw [heS]; exact hbr_230) (by rw [heS]; exact hP) hS hx hb hr dX4_succeeds_243 hlk
          · skip
            refine lv_iconst (v := (nI 1)) hx hb dX4_succeeds_238 (by decide) ?_
            refine lv_goto (tgt := 243) hx hb dX4_succeeds_239 (by decide) ?_
            have heS : scS g9 σ = closeR σ (nI ((g9 / 1000) % 100)) (nI ((g9 / 10) % 100)) (decide (g9 % 10 = 1)) := by simp [scS, c_200, c_235, h59]
            have heB : scB g9 σ = true := by simp [scB, c_200, c_235, h59]
            exact wr_z (b := (scB g9 σ)) b1_230 (by rw [heB]; rfl) rfl (by rw [heS]; exact hbr_230) (by rw [heS]; exact hP) hS hx hb hr dX4_succeeds_243 hlk
        · skip
          refine lv_iload hx hb dX4_succeeds_219 (lv_at hl 2 rfl) ?_
          refine lv_iconst (v := (nI 1)) hx hb dX4_succeeds_221 (by decide) ?_
          refine lv_icmp_ne (tgt := 229) hx hb dX4_succeeds_222 (by decide) (fun c_222 => ?_) (fun c_222 => ?_)
          · have c_222 := (nc_ne9 (by omega) (by omega) c_222)
            refine lv_iconst (v := (nI 0)) hx hb dX4_succeeds_229 (by decide) ?_
            exact jn230 _ (by simp [bI, nI_0, nI_o, c_222])
          · have c_222 := (nc_eq9 (by omega) (by omega) c_222)
            refine lv_iconst (v := (nI 1)) hx hb dX4_succeeds_225 (by decide) ?_
            refine lv_goto (tgt := 230) hx hb dX4_succeeds_226 (by decide) ?_
            exact jn230 _ (by simp [bI, nI_0, nI_o, c_222])
    · have c_59 : (nI (g9 / 100000)) = nI 5 := c_59
      refine lv_tableIn (tgt := 244) (off := 185) hx hb dX4_succeeds_59 (by rw [c_59]; decide) (by rw [c_59]; decide) (by rw [c_59]; decide) (by decide) ?_
      have h59 : g9 / 100000 = 5 := nc_eq (by omega) (by decide) c_59
      refine lv_iload hx hb dX4_succeeds_244 (lv_at hl 4 rfl) ?_
      refine lv_if_ne (tgt := 265) hx hb dX4_succeeds_246 (by decide) (fun c_246 => ?_) (fun c_246 => ?_)
      · have c_246 := (nz_ne c_246 (by omega))
        refine lv_iconst (v := (nI 0)) hx hb dX4_succeeds_265 (by decide) ?_
        have heS : scS g9 σ = σ := by simp [scS, c_246, h59]
        have heB : scB g9 σ = false := by simp [scB, c_246, h59]
        exact wr_z (b := (scB g9 σ)) b (by rw [heB]; rfl) rfl (by rw [heS]; exact hbr) (by rw [heS]; exact hP) hS hx hb hr dX4_succeeds_266 hlk
      · have c_246 := (nz_eq c_246 (by omega))
        refine lv_aload_n hx hb dX4_succeeds_249 rfl (lv_at hl 7 rfl) ?_
        refine lv_iload_n hx hb dX4_succeeds_250 rfl (lv_at hl 6 rfl) ?_
        refine lv_iload hx hb dX4_succeeds_251 (lv_at hl 1 rfl) ?_
        refine wr_call (wc := [(a 0, .inr (0, [.ref (a 1), .ref (a 4), .ref (a 6), .ref (a 8), .ref (a 9), .int (nI (σ 2)), .int (nI (σ 3)), .int (nI (σ 4)), .int (nI (σ 5)), .int (nI (σ 6)), .int (nI (σ 7))])), (a 1, .inr (2, [.ref (a 2), .ref (a 3), .int (nI (cmk σ))])), aI cy (a 2) 144 (wv σ), aI cy (a 3) 12 (b 1), (a 4, .inr (3, [.int (nI 6), .int (nI 11), .ref (a 5), .int (nI (σ 0))])), aI cy (a 5) 66 (b 2), (a 6, .inr (3, [.int (nI 20), .int (nI 6), .ref (a 7), .int (nI (σ 1))])), aI cy (a 7) 120 (b 3), aI cy (a 8) 8 (mS (pu σ)), aI cy (a 9) 6 (b 5)]) (va_runV (As := [.int (nI ((g9 / 10000) % 10)), .int (nI (g9 % 100))]) (rest := []) ⟨hx, hb, hml, hown, hts⟩ (c_X0_changeSetting l g cy  s.heap.size a σ b bd (nI ((g9 / 10000) % 10)) (nI (g9 % 100)) hwf hbr) ⟨(cB 2 hts wd23_1 wd1_12 wd27_15 rfl rfl (by decide +kernel) ⟨Nat.le_of_ble_eq_true rfl, Nat.le_of_ble_eq_true rfl⟩), hts _ wd22_23, hts _ wd23_0⟩ (pv hK hP hD hS hA hX [0, 1, 2, 3, 4, 5, 6, 7, 8, 9] rfl rfl 0 0 rfl rfl) rfl rfl hl.1 rfl (lv_room (Nat.le_of_ble_eq_true rfl)) dX4_succeeds_253 ⟨Nat.zero_le _, Nat.zero_le _⟩) hP hD hS hA [0, 1, 2, 3, 4, 5, 6, 7, 8, 9] rfl rfl (fun _ => (rfl : ([a 0, a 1, a 2, a 3, a 4, a 5, a 6, a 7, a 8, a 9] : List Nat) = [a 0, a 1, a 2, a 3, a 4, a 5, a 6, a 7, a 8, a 9])) ?_
        rintro b1_253 H locs hbr_253 hP hD hS
        have hP : va_P g vwCl [(a 0, .inr (0, [.ref (a 1), .ref (a 4), .ref (a 6), .ref (a 8), .ref (a 9), .int (nI ((setR σ (nI ((g9 / 10000) % 10)) (nI (g9 % 100))) 2)), .int (nI ((setR σ (nI ((g9 / 10000) % 10)) (nI (g9 % 100))) 3)), .int (nI ((setR σ (nI ((g9 / 10000) % 10)) (nI (g9 % 100))) 4)), .int (nI ((setR σ (nI ((g9 / 10000) % 10)) (nI (g9 % 100))) 5)), .int (nI ((setR σ (nI ((g9 / 10000) % 10)) (nI (g9 % 100))) 6)), .int (nI ((setR σ (nI ((g9 / 10000) % 10)) (nI (g9 % 100))) 7))])), (a 1, .inr (2, [.ref (a 2), .ref (a 3), .int (nI (cmk (setR σ (nI ((g9 / 10000) % 10)) (nI (g9 % 100)))))])), aI cy (a 2) 144 (wv (setR σ (nI ((g9 / 10000) % 10)) (nI (g9 % 100)))), aI cy (a 3) 12 (b1_253 1), (a 4, .inr (3, [.int (nI 6), .int (nI 11), .ref (a 5), .int (nI ((setR σ (nI ((g9 / 10000) % 10)) (nI (g9 % 100))) 0))])), aI cy (a 5) 66 (b1_253 2), (a 6, .inr (3, [.int (nI 20), .int (nI 6), .ref (a 7), .int (nI ((setR σ (nI ((g9 / 10000) % 10)) (nI (g9 % 100))) 1))])), aI cy (a 7) 120 (b1_253 3), aI cy (a 8) 8 (mS (pu (setR σ (nI ((g9 / 10000) % 10)) (nI (g9 % 100))))), aI cy (a 9) 6 (b1_253 5)] H := hP
        have hD : va_D A [(a 0, .inr (0, [.ref (a 1), .ref (a 4), .ref (a 6), .ref (a 8), .ref (a 9), .int (nI ((setR σ (nI ((g9 / 10000) % 10)) (nI (g9 % 100))) 2)), .int (nI ((setR σ (nI ((g9 / 10000) % 10)) (nI (g9 % 100))) 3)), .int (nI ((setR σ (nI ((g9 / 10000) % 10)) (nI (g9 % 100))) 4)), .int (nI ((setR σ (nI ((g9 / 10000) % 10)) (nI (g9 % 100))) 5)), .int (nI ((setR σ (nI ((g9 / 10000) % 10)) (nI (g9 % 100))) 6)), .int (nI ((setR σ (nI ((g9 / 10000) % 10)) (nI (g9 % 100))) 7))])), (a 1, .inr (2, [.ref (a 2), .ref (a 3), .int (nI (cmk (setR σ (nI ((g9 / 10000) % 10)) (nI (g9 % 100)))))])), aI cy (a 2) 144 (wv (setR σ (nI ((g9 / 10000) % 10)) (nI (g9 % 100)))), aI cy (a 3) 12 (b1_253 1), (a 4, .inr (3, [.int (nI 6), .int (nI 11), .ref (a 5), .int (nI ((setR σ (nI ((g9 / 10000) % 10)) (nI (g9 % 100))) 0))])), aI cy (a 5) 66 (b1_253 2), (a 6, .inr (3, [.int (nI 20), .int (nI 6), .ref (a 7), .int (nI ((setR σ (nI ((g9 / 10000) % 10)) (nI (g9 % 100))) 1))])), aI cy (a 7) 120 (b1_253 3), aI cy (a 8) 8 (mS (pu (setR σ (nI ((g9 / 10000) % 10)) (nI (g9 % 100))))), aI cy (a 9) 6 (b1_253 5)] := hD
        have hbr_253 : BR (setR σ (nI ((g9 / 10000) % 10)) (nI (g9 % 100))) b1_253 := hbr_253
        show W _ _ _ _ _ _ _ _ _ _ _ _ _ _ _ (F0 mX 256 ls [.int (nI (setA σ (nI ((g9 / 10000) % 10)) (nI (g9 % 100))))])
        refine ti (show (nI (setA σ (nI ((g9 / 10000) % 10)) (nI (g9 % 100)))) = (nI (setA σ (nI (g9 / 10000 % 10)) (nI (g9 % 100)))) from rfl) ?_
        refine lv_bipush (v := (nI NN2)) hx hb dX4_succeeds_256 (by decide) ?_
        refine lv_icmp_eq (tgt := 265) hx hb dX4_succeeds_258 (by decide) (fun c_258 => ?_) (fun c_258 => ?_)
        · skip
          refine lv_iconst (v := (nI 0)) hx hb dX4_succeeds_265 (by decide) ?_
          have heS : scS g9 σ = setR σ (nI ((g9 / 10000) % 10)) (nI (g9 % 100)) := by simp [scS, c_246, c_258, h59]
          have heB : scB g9 σ = false := by simp [scB, c_246, c_258, h59]
          exact wr_z (b := (scB g9 σ)) b1_253 (by rw [heB]; rfl) rfl (by rw [heS]; exact hbr_253) (by rw [heS]; exact hP) hS hx hb hr dX4_succeeds_266 hlk
        · skip
          refine lv_iconst (v := (nI 1)) hx hb dX4_succeeds_261 (by decide) ?_
          refine lv_goto (tgt := 266) hx hb dX4_succeeds_262 (by decide) ?_
          have heS : scS g9 σ = setR σ (nI ((g9 / 10000) % 10)) (nI (g9 % 100)) := by simp [scS, c_246, c_258, h59]
          have heB : scB g9 σ = true := by simp [scB, c_246, c_258, h59]
          exact wr_z (b := (scB g9 σ)) b1_253 (by rw [heB]; rfl) rfl (by rw [heS]; exact hbr_253) (by rw [heS]; exact hP) hS hx hb hr dX4_succeeds_266 hlk
    · have c_59 : (nI (g9 / 100000)) = nI 6 := c_59
      refine lv_tableIn (tgt := 267) (off := 208) hx hb dX4_succeeds_59 (by rw [c_59]; decide) (by rw [c_59]; decide) (by rw [c_59]; decide) (by decide) ?_
      have h59 : g9 / 100000 = 6 := nc_eq (by omega) (by decide) c_59
      refine lv_iload hx hb dX4_succeeds_267 (lv_at hl 1 rfl) ?_
      refine lv_if_ne (tgt := 305) hx hb dX4_succeeds_269 (by decide) (fun c_269 => ?_) (fun c_269 => ?_)
      · have c_269 := (nz_ne c_269 (by omega))
        refine lv_iconst (v := (nI 0)) hx hb dX4_succeeds_305 (by decide) ?_
        have heS : scS g9 σ = σ := by simp [scS, c_269, h59]
        have heB : scB g9 σ = false := by simp [scB, c_269, h59]
        exact wr_z (b := (scB g9 σ)) b (by rw [heB]; rfl) rfl (by rw [heS]; exact hbr) (by rw [heS]; exact hP) hS hx hb hr dX4_succeeds_306 hlk
      · have c_269 := (nz_eq c_269 (by omega))
        refine lv_iload hx hb dX4_succeeds_272 (lv_at hl 4 rfl) ?_
        refine rd_call (va_runSN (As := [.int (nI ((g9 / 100) % 100))]) (rest := []) ⟨hx, hb, hml, hown, hts⟩ (c_X7_isCorner l (nI ((g9 / 100) % 100)) ) ⟨va_cnB 1 hts (bg_call wd6_12) rfl rfl rfl (nM_9 hX) (hts _ wd1_2) (by decide +kernel) ⟨Nat.le_of_ble_eq_true rfl, Nat.le_of_ble_eq_true rfl⟩, hts _ wd6_11, trivial⟩ p0 rfl rfl hl.1 rfl (lv_room (Nat.le_of_ble_eq_true rfl)) dX4_succeeds_274 ⟨Nat.zero_le _, Nat.zero_le _⟩) ?_
        show W _ _ _ _ _ _ _ _ _ _ _ _ _ _ _ (F0 mX 277 ls [.int (bI (inR (nI ((g9 / 100) % 100)) (nI 0) (nI 11)))])
        refine ti (show (bI (inR (nI ((g9 / 100) % 100)) (nI 0) (nI 11))) = (bI (decide (g9 / 100 % 100 < 12))) from (congrArg bI ((inR_n (by omega) (by omega) (by omega)).trans (in12 rfl)))) ?_
        refine lv_if_eq (tgt := 305) hx hb dX4_succeeds_277 (by decide) (fun c_277 => ?_) (fun c_277 => ?_)
        · have c_277 := (bI_eq0.mp c_277)
          refine lv_iconst (v := (nI 0)) hx hb dX4_succeeds_305 (by decide) ?_
          have heS : scS g9 σ = σ := by simp [scS, c_269, c_277, h59]
          have heB : scB g9 σ = false := by simp [scB, c_269, c_277, h59]
          exact wr_z (b := (scB g9 σ)) b (by rw [heB]; rfl) rfl (by rw [heS]; exact hbr) (by rw [heS]; exact hP) hS hx hb hr dX4_succeeds_306 hlk
        · have c_277 := (bI_ne0.mp c_277)
          have hc12 : g9 / 100 % 100 < 12 := of_decide_eq_true c_277
          refine lv_aload_n hx hb dX4_succeeds_280 rfl (lv_at hl 7 rfl) ?_
          refine lv_iload_n hx hb dX4_succeeds_281 rfl (lv_at hl 6 rfl) ?_
          refine rd_call (va_runV (As := [.int (nI ((g9 / 10000) % 10))]) (rest := []) ⟨hx, hb, hml, hown, hts⟩ (c_X0_isMissing l g cy  s.heap.size a σ b bd ((g9 / 10000) % 10) hwf hbr (by omega)) ⟨(cB 1 hts wd13_19 wd1_12 wd27_16 rfl rfl (by decide +kernel) ⟨Nat.le_of_ble_eq_true rfl, Nat.le_of_ble_eq_true rfl⟩), hts _ wd13_17, hts _ wd13_18⟩ (pv hK hP hD hS hA hX [0, 1, 2, 3, 4, 5, 6, 7, 8, 9] rfl rfl 0 0 rfl rfl) rfl rfl hl.1 rfl (lv_room (Nat.le_of_ble_eq_true rfl)) dX4_succeeds_282 ⟨Nat.zero_le _, Nat.zero_le _⟩) ?_
          show W _ _ _ _ _ _ _ _ _ _ _ _ _ _ _ (F0 mX 285 ls [.int (bI (decide (((g9 / 10000) % 10) < σ 0) && msg σ ((g9 / 10000) % 10)))])
          refine lv_if_eq (tgt := 305) hx hb dX4_succeeds_285 (by decide) (fun c_285 => ?_) (fun c_285 => ?_)
          · have c_285 := (bI_eq0.mp c_285)
            refine lv_iconst (v := (nI 0)) hx hb dX4_succeeds_305 (by decide) ?_
            have heS : scS g9 σ = σ := by simp [scS, c_269, c_277, c_285, h59]
            have heB : scB g9 σ = false := by simp [scB, c_269, c_277, c_285, h59]
            exact wr_z (b := (scB g9 σ)) b (by rw [heB]; rfl) rfl (by rw [heS]; exact hbr) (by rw [heS]; exact hP) hS hx hb hr dX4_succeeds_306 hlk
          · have c_285 := (bI_ne0.mp c_285)
            have hd0 : g9 / 10000 % 10 < σ 0 := by simp only [Bool.and_eq_true, decide_eq_true_eq] at c_285; exact c_285.1
            have hm12 := mk_lt (cbe σ (g9 / 10000 % 10)) 12
            refine lv_aload_n hx hb dX4_succeeds_288 rfl (lv_at hl 7 rfl) ?_
            refine lv_iload_n hx hb dX4_succeeds_289 rfl (lv_at hl 6 rfl) ?_
            refine rd_call (va_runV (As := [.int (nI ((g9 / 10000) % 10))]) (rest := []) ⟨hx, hb, hml, hown, hts⟩ (c_X0_placesOf l g cy  s.heap.size a σ b bd ((g9 / 10000) % 10) hwf hbr (by omega)) ⟨(cB 1 hts wd24_5 wd1_12 wd27_17 rfl rfl (by decide +kernel) ⟨Nat.le_of_ble_eq_true rfl, Nat.le_of_ble_eq_true rfl⟩), hts _ wd24_3, hts _ wd24_4⟩ (pv hK hP hD hS hA hX [0, 1, 2, 3, 4, 5, 6, 7, 8, 9] rfl rfl 0 0 rfl rfl) rfl rfl hl.1 rfl (lv_room (Nat.le_of_ble_eq_true rfl)) dX4_succeeds_290 ⟨Nat.zero_le _, Nat.zero_le _⟩) ?_
            show W _ _ _ _ _ _ _ _ _ _ _ _ _ _ _ (F0 mX 293 ls [.int (nI (mk (cbe σ ((g9 / 10000) % 10)) 12))])
            refine lv_iload hx hb dX4_succeeds_293 (lv_at hl 4 rfl) ?_
            refine rd_call (va_runSN (As := [.int (nI (mk (cbe σ ((g9 / 10000) % 10)) 12)), .int (nI ((g9 / 100) % 100))]) (rest := []) ⟨hx, hb, hml, hown, hts⟩ (c_X7_hasBit l (mk (cbe σ ((g9 / 10000) % 10)) 12) ((g9 / 100) % 100) (by omega) (by omega)) ⟨va_cnB 2 hts (bg_call wd5_0) rfl rfl rfl (nM_10 hX) (hts _ wd1_2) (by decide +kernel) ⟨Nat.le_of_ble_eq_true rfl, Nat.le_of_ble_eq_true rfl⟩, hts _ wd4_23, trivial⟩ p0 rfl rfl hl.1 rfl (lv_room (Nat.le_of_ble_eq_true rfl)) dX4_succeeds_295 ⟨Nat.zero_le _, Nat.zero_le _⟩) ?_
            show W _ _ _ _ _ _ _ _ _ _ _ _ _ _ _ (F0 mX 298 ls [.int (bI ((mk (cbe σ ((g9 / 10000) % 10)) 12).testBit ((g9 / 100) % 100)))])
            refine ti (show (bI ((mk (cbe σ ((g9 / 10000) % 10)) 12).testBit ((g9 / 100) % 100))) = (bI (cbe σ (g9 / 10000 % 10) (g9 / 100 % 100))) from (congrArg bI (by rw [mk_bit]; simp [hc12]))) ?_
            refine lv_if_eq (tgt := 305) hx hb dX4_succeeds_298 (by decide) (fun c_298 => ?_) (fun c_298 => ?_)
            · have c_298 := (bI_eq0.mp c_298)
              refine lv_iconst (v := (nI 0)) hx hb dX4_succeeds_305 (by decide) ?_
              have heS : scS g9 σ = σ := by simp [scS, c_269, c_277, c_285, c_298, h59]
              have heB : scB g9 σ = false := by simp [scB, c_269, c_277, c_285, c_298, h59]
              exact wr_z (b := (scB g9 σ)) b (by rw [heB]; rfl) rfl (by rw [heS]; exact hbr) (by rw [heS]; exact hP) hS hx hb hr dX4_succeeds_306 hlk
            · have c_298 := (bI_ne0.mp c_298)
              refine lv_iconst (v := (nI 1)) hx hb dX4_succeeds_301 (by decide) ?_
              refine lv_goto (tgt := 306) hx hb dX4_succeeds_302 (by decide) ?_
              have heS : scS g9 σ = σ := by simp [scS, c_269, c_277, c_285, c_298, h59]
              have heB : scB g9 σ = true := by simp [scB, c_269, c_277, c_285, c_298, h59]
              exact wr_z (b := (scB g9 σ)) b (by rw [heB]; rfl) rfl (by rw [heS]; exact hbr) (by rw [heS]; exact hP) hS hx hb hr dX4_succeeds_306 hlk
    · have c_59 : (nI (g9 / 100000)) = nI 7 := c_59
      refine lv_tableIn (tgt := 307) (off := 248) hx hb dX4_succeeds_59 (by rw [c_59]; decide) (by rw [c_59]; decide) (by rw [c_59]; decide) (by decide) ?_
      have h59 : g9 / 100000 = 7 := nc_eq (by omega) (by decide) c_59
      refine lv_iload_n hx hb dX4_succeeds_307 rfl (lv_at hl 6 rfl) ?_
      refine lv_if_ne (tgt := 329) hx hb dX4_succeeds_308 (by decide) (fun c_308 => ?_) (fun c_308 => ?_)
      · have c_308 := (nz_ne c_308 (by omega))
        refine lv_iconst (v := (nI 0)) hx hb dX4_succeeds_329 (by decide) ?_
        have heS : scS g9 σ = σ := by simp [scS, c_308, h59]
        have heB : scB g9 σ = false := by simp [scB, c_308, h59]
        exact wr_z (b := (scB g9 σ)) b (by rw [heB]; rfl) rfl (by rw [heS]; exact hbr) (by rw [heS]; exact hP) hS hx hb hr dX4_succeeds_330 hlk
      · have c_308 := (nz_eq c_308 (by omega))
        refine lv_iload hx hb dX4_succeeds_311 (lv_at hl 4 rfl) ?_
        refine lv_if_ne (tgt := 329) hx hb dX4_succeeds_313 (by decide) (fun c_313 => ?_) (fun c_313 => ?_)
        · have c_313 := (nz_ne c_313 (by omega))
          refine lv_iconst (v := (nI 0)) hx hb dX4_succeeds_329 (by decide) ?_
          have heS : scS g9 σ = σ := by simp [scS, c_308, c_313, h59]
          have heB : scB g9 σ = false := by simp [scB, c_308, c_313, h59]
          exact wr_z (b := (scB g9 σ)) b (by rw [heB]; rfl) rfl (by rw [heS]; exact hbr) (by rw [heS]; exact hP) hS hx hb hr dX4_succeeds_330 hlk
        · have c_313 := (nz_eq c_313 (by omega))
          refine lv_aload_n hx hb dX4_succeeds_316 rfl (lv_at hl 7 rfl) ?_
          have hfr9 := ct_le (frd σ) (σ 1)
          refine rd_call (va_runV (As := []) (rest := []) ⟨hx, hb, hml, hown, hts⟩ (c_X0_fraudsInAll l g cy  s.heap.size a σ b bd hwf hbr) ⟨(cB 0 hts wd19_0 wd1_12 wd27_18 rfl rfl (by decide +kernel) ⟨Nat.le_of_ble_eq_true rfl, Nat.le_of_ble_eq_true rfl⟩), hts _ wd18_22, hts _ wd18_23⟩ (pv hK hP hD hS hA hX [0, 1, 2, 3, 4, 5, 6, 7, 8, 9] rfl rfl 0 0 rfl rfl) rfl rfl hl.1 rfl (lv_room (Nat.le_of_ble_eq_true rfl)) dX4_succeeds_317 ⟨Nat.zero_le _, Nat.zero_le _⟩) ?_
          show W _ _ _ _ _ _ _ _ _ _ _ _ _ _ _ (F0 mX 320 ls [.int (nI (ct (frd σ) (σ 1)))])
          refine lv_iload hx hb dX4_succeeds_320 (lv_at hl 1 rfl) ?_
          refine lv_icmp_gt (tgt := 329) hx hb dX4_succeeds_322 (by decide) (fun c_322 => ?_) (fun c_322 => ?_)
          · have c_322 := (nc_lt (by omega) (by omega) c_322)
            refine lv_iconst (v := (nI 0)) hx hb dX4_succeeds_329 (by decide) ?_
            have heS : scS g9 σ = σ := by simp [scS, c_308, c_313, Nat.not_le.mpr c_322, h59]
            have heB : scB g9 σ = false := by simp [scB, c_308, c_313, Nat.not_le.mpr c_322, h59]
            exact wr_z (b := (scB g9 σ)) b (by rw [heB]; rfl) rfl (by rw [heS]; exact hbr) (by rw [heS]; exact hP) hS hx hb hr dX4_succeeds_330 hlk
          · have c_322 := (nc_nlt (by omega) (by omega) c_322)
            refine lv_iconst (v := (nI 1)) hx hb dX4_succeeds_325 (by decide) ?_
            refine lv_goto (tgt := 330) hx hb dX4_succeeds_326 (by decide) ?_
            have heS : scS g9 σ = σ := by simp [scS, c_308, c_313, c_322, h59]
            have heB : scB g9 σ = true := by simp [scB, c_308, c_313, c_322, h59]
            exact wr_z (b := (scB g9 σ)) b (by rw [heB]; rfl) rfl (by rw [heS]; exact hbr) (by rw [heS]; exact hP) hS hx hb hr dX4_succeeds_330 hlk
    · have c_59 : (nI (g9 / 100000)) = nI 8 := c_59
      refine lv_tableIn (tgt := 331) (off := 272) hx hb dX4_succeeds_59 (by rw [c_59]; decide) (by rw [c_59]; decide) (by rw [c_59]; decide) (by decide) ?_
      have h59 : g9 / 100000 = 8 := nc_eq (by omega) (by decide) c_59
      refine lv_iload_n hx hb dX4_succeeds_331 rfl (lv_at hl 5 rfl) ?_
      refine lv_if_ne (tgt := 364) hx hb dX4_succeeds_332 (by decide) (fun c_332 => ?_) (fun c_332 => ?_)
      · have c_332 := (nz_ne c_332 (by omega))
        refine lv_iconst (v := (nI 0)) hx hb dX4_succeeds_364 (by decide) ?_
        have heS : scS g9 σ = σ := by simp [scS, c_332, h59]
        have heB : scB g9 σ = false := by simp [scB, c_332, h59]
        exact wr_z (b := (scB g9 σ)) b (by rw [heB]; rfl) rfl (by rw [heS]; exact hbr) (by rw [heS]; exact hP) hS hx hb hr dX4_succeeds_365 hlk
      · have c_332 := (nz_eq c_332 (by omega))
        refine lv_aload_n hx hb dX4_succeeds_335 rfl (lv_at hl 7 rfl) ?_
        refine va_getN (D := g) (ci := 0) (v := .ref (a 4)) (C := RX0) (T := TX0) (N := 11) hx hb hts bgX0 hown hK hP 0 rfl rfl 1 (by decide) (va_Nw.use rfl (nF_1 hX)) (fun _ h9 => h9) rfl dX4_succeeds_336 ?_
        refine lv_iload_n hx hb dX4_succeeds_339 rfl (lv_at hl 6 rfl) ?_
        refine rd_call (va_runV (As := [.int (nI ((g9 / 10000) % 10))]) (rest := []) ⟨hx, hb, hml, hown, hts⟩ (c_X3_has l g cy (a 4) (a 5) s.heap.size 6 11 66 (b 2) (σ 0) (nI ((g9 / 10000) % 10)) (by omega)) ⟨(cB 1 hts wd15_6 wd2_11 wd27_19 rfl rfl (by decide +kernel) ⟨Nat.le_of_ble_eq_true rfl, Nat.le_of_ble_eq_true rfl⟩), hts _ wd15_4, hts _ wd15_5⟩ (pv hK hP hD hS hA hX [4, 5] rfl rfl 3 4 rfl rfl) rfl rfl hl.1 rfl (lv_room (Nat.le_of_ble_eq_true rfl)) dX4_succeeds_340 ⟨Nat.zero_le _, Nat.zero_le _⟩) ?_
        show W _ _ _ _ _ _ _ _ _ _ _ _ _ _ _ (F0 mX 343 ls [.int (bI (hasR (σ 0) (nI ((g9 / 10000) % 10))))])
        refine ti (show (bI (hasR (σ 0) (nI ((g9 / 10000) % 10)))) = (bI (decide (g9 / 10000 % 10 < σ 0))) from (congrArg bI (hasR_n (by omega) (by omega)))) ?_
        refine lv_if_eq (tgt := 364) hx hb dX4_succeeds_343 (by decide) (fun c_343 => ?_) (fun c_343 => ?_)
        · have c_343 := (bI_eq0.mp c_343)
          refine lv_iconst (v := (nI 0)) hx hb dX4_succeeds_364 (by decide) ?_
          have heS : scS g9 σ = σ := by simp [scS, c_332, c_343, h59]
          have heB : scB g9 σ = false := by simp [scB, c_332, c_343, h59]
          exact wr_z (b := (scB g9 σ)) b (by rw [heB]; rfl) rfl (by rw [heS]; exact hbr) (by rw [heS]; exact hP) hS hx hb hr dX4_succeeds_365 hlk
        · have c_343 := (bI_ne0.mp c_343)
          have hd0 : g9 / 10000 % 10 < σ 0 := of_decide_eq_true c_343
          have hdb := hwf.db hd0
          refine lv_aload_n hx hb dX4_succeeds_346 rfl (lv_at hl 7 rfl) ?_
          refine va_getN (D := g) (ci := 0) (v := .ref (a 4)) (C := RX0) (T := TX0) (N := 11) hx hb hts bgX0 hown hK hP 0 rfl rfl 1 (by decide) (va_Nw.use rfl (nF_1 hX)) (fun _ h9 => h9) rfl dX4_succeeds_347 ?_
          refine lv_iload_n hx hb dX4_succeeds_350 rfl (lv_at hl 6 rfl) ?_
          refine lv_iconst (v := (nI 4)) hx hb dX4_succeeds_351 (by decide) ?_
          refine rd_call (va_runV (As := [.int (nI ((g9 / 10000) % 10)), .int (nI 4)]) (rest := []) ⟨hx, hb, hml, hown, hts⟩ (c_X3_get l g cy (a 4) (a 5) s.heap.size 6 11 66 (b 2) (σ 0) (nI ((g9 / 10000) % 10)) 4 (by omega) (by omega) (by omega) (by omega) (by omega) (by omega)) ⟨(cB 2 hts wd13_23 wd2_11 wd27_20 rfl rfl (by decide +kernel) ⟨Nat.le_of_ble_eq_true rfl, Nat.le_of_ble_eq_true rfl⟩), hts _ wd13_21, hts _ wd13_22⟩ (pv hK hP hD hS hA hX [4, 5] rfl rfl 3 4 rfl rfl) rfl rfl hl.1 rfl (lv_room (Nat.le_of_ble_eq_true rfl)) dX4_succeeds_352 ⟨Nat.zero_le _, Nat.zero_le _⟩) ?_
          refine ti (show getR (b 2) 11 (σ 0) (nI ((g9 / 10000) % 10)) 4 = (nI (dg σ ((g9 / 10000) % 10) 4)) from (hbr.gd hn0 (by omega) (by decide))) ?_
          refine lv_iload hx hb dX4_succeeds_355 (lv_at hl 0 rfl) ?_
          refine lv_icmp_lt (tgt := 364) hx hb dX4_succeeds_357 (by decide) (fun c_357 => ?_) (fun c_357 => ?_)
          · have c_357 := (nc_lt (by omega) (by omega) c_357)
            refine lv_iconst (v := (nI 0)) hx hb dX4_succeeds_364 (by decide) ?_
            have heS : scS g9 σ = σ := by simp [scS, c_332, c_343, Nat.not_le.mpr c_357, h59]
            have heB : scB g9 σ = false := by simp [scB, c_332, c_343, Nat.not_le.mpr c_357, h59]
            exact wr_z (b := (scB g9 σ)) b (by rw [heB]; rfl) rfl (by rw [heS]; exact hbr) (by rw [heS]; exact hP) hS hx hb hr dX4_succeeds_365 hlk
          · have c_357 := (nc_nlt (by omega) (by omega) c_357)
            refine lv_iconst (v := (nI 1)) hx hb dX4_succeeds_360 (by decide) ?_
            refine lv_goto (tgt := 365) hx hb dX4_succeeds_361 (by decide) ?_
            have heS : scS g9 σ = σ := by simp [scS, c_332, c_343, c_357, h59]
            have heB : scB g9 σ = true := by simp [scB, c_332, c_343, c_357, h59]
            exact wr_z (b := (scB g9 σ)) b (by rw [heB]; rfl) rfl (by rw [heS]; exact hbr) (by rw [heS]; exact hP) hS hx hb hr dX4_succeeds_365 hlk
    · have c_59 : (nI (g9 / 100000)) = nI 9 := c_59
      refine lv_tableIn (tgt := 366) (off := 307) hx hb dX4_succeeds_59 (by rw [c_59]; decide) (by rw [c_59]; decide) (by rw [c_59]; decide) (by decide) ?_
      have h59 : g9 / 100000 = 9 := nc_eq (by omega) (by decide) c_59
      refine lv_iload_n hx hb dX4_succeeds_366 rfl (lv_at hl 5 rfl) ?_
      refine lv_if_ne (tgt := 391) hx hb dX4_succeeds_367 (by decide) (fun c_367 => ?_) (fun c_367 => ?_)
      · have c_367 := (nz_ne c_367 (by omega))
        refine lv_iconst (v := (nI 0)) hx hb dX4_succeeds_391 (by decide) ?_
        have heS : scS g9 σ = σ := by simp [scS, c_367, h59]
        have heB : scB g9 σ = false := by simp [scB, c_367, h59]
        exact wr_z (b := (scB g9 σ)) b (by rw [heB]; rfl) rfl (by rw [heS]; exact hbr) (by rw [heS]; exact hP) hS hx hb hr dX4_succeeds_392 hlk
      · have c_367 := (nz_eq c_367 (by omega))
        refine lv_iload_n hx hb dX4_succeeds_370 rfl (lv_at hl 6 rfl) ?_
        refine rd_call (va_runSN (As := [.int (nI ((g9 / 10000) % 10))]) (rest := []) ⟨hx, hb, hml, hown, hts⟩ (c_X7_isFinder l (nI ((g9 / 10000) % 10)) ) ⟨va_cnB 1 hts (bg_call wd13_7) rfl rfl rfl (nM_11 hX) (hts _ wd1_2) (by decide +kernel) ⟨Nat.le_of_ble_eq_true rfl, Nat.le_of_ble_eq_true rfl⟩, hts _ wd13_6, trivial⟩ p0 rfl rfl hl.1 rfl (lv_room (Nat.le_of_ble_eq_true rfl)) dX4_succeeds_371 ⟨Nat.zero_le _, Nat.zero_le _⟩) ?_
        show W _ _ _ _ _ _ _ _ _ _ _ _ _ _ _ (F0 mX 374 ls [.int (bI (inR (nI ((g9 / 10000) % 10)) (nI 0) (nI 7)))])
        refine ti (show (bI (inR (nI ((g9 / 10000) % 10)) (nI 0) (nI 7))) = (bI (decide (g9 / 10000 % 10 < 8))) from (congrArg bI ((inR_n (by omega) (by omega) (by omega)).trans (in12 rfl)))) ?_
        refine lv_if_eq (tgt := 391) hx hb dX4_succeeds_374 (by decide) (fun c_374 => ?_) (fun c_374 => ?_)
        · have c_374 := (bI_eq0.mp c_374)
          refine lv_iconst (v := (nI 0)) hx hb dX4_succeeds_391 (by decide) ?_
          have heS : scS g9 σ = σ := by simp [scS, c_367, c_374, h59]
          have heB : scB g9 σ = false := by simp [scB, c_367, c_374, h59]
          exact wr_z (b := (scB g9 σ)) b (by rw [heB]; rfl) rfl (by rw [heS]; exact hbr) (by rw [heS]; exact hP) hS hx hb hr dX4_succeeds_392 hlk
        · have c_374 := (bI_ne0.mp c_374)
          have hf8 : g9 / 10000 % 10 < 8 := of_decide_eq_true c_374
          refine lv_aload_n hx hb dX4_succeeds_377 rfl (lv_at hl 7 rfl) ?_
          refine lv_iload_n hx hb dX4_succeeds_378 rfl (lv_at hl 6 rfl) ?_
          refine rd_call (va_runV (As := [.int (nI ((g9 / 10000) % 10))]) (rest := []) ⟨hx, hb, hml, hown, hts⟩ (c_X0_coinsOf l g cy  s.heap.size a σ b bd ((g9 / 10000) % 10) hwf hbr (by omega)) ⟨(cB 1 hts wd16_13 wd1_12 wd27_21 rfl rfl (by decide +kernel) ⟨Nat.le_of_ble_eq_true rfl, Nat.le_of_ble_eq_true rfl⟩), hts _ wd16_11, hts _ wd16_12⟩ (pv hK hP hD hS hA hX [0, 1, 2, 3, 4, 5, 6, 7, 8, 9] rfl rfl 0 0 rfl rfl) rfl rfl hl.1 rfl (lv_room (Nat.le_of_ble_eq_true rfl)) dX4_succeeds_379 ⟨Nat.zero_le _, Nat.zero_le _⟩) ?_
          show W _ _ _ _ _ _ _ _ _ _ _ _ _ _ _ (F0 mX 382 ls [.int (nI (σ (8 + ((g9 / 10000) % 10))))])
          refine ti (show (nI (σ (8 + ((g9 / 10000) % 10)))) = (nI (σ (8 + g9 / 10000 % 10))) from rfl) ?_
          refine lv_iload hx hb dX4_succeeds_382 (lv_at hl 0 rfl) ?_
          refine lv_icmp_lt (tgt := 391) hx hb dX4_succeeds_384 (by decide) (fun c_384 => ?_) (fun c_384 => ?_)
          · skip
            refine lv_iconst (v := (nI 0)) hx hb dX4_succeeds_391 (by decide) ?_
            have heS : scS g9 σ = σ := by simp [scS, c_367, c_374, c_384, h59]
            have heB : scB g9 σ = false := by simp [scB, c_367, c_374, c_384, h59]
            exact wr_z (b := (scB g9 σ)) b (by rw [heB]; rfl) rfl (by rw [heS]; exact hbr) (by rw [heS]; exact hP) hS hx hb hr dX4_succeeds_392 hlk
          · skip
            refine lv_iconst (v := (nI 1)) hx hb dX4_succeeds_387 (by decide) ?_
            refine lv_goto (tgt := 392) hx hb dX4_succeeds_388 (by decide) ?_
            have heS : scS g9 σ = σ := by simp [scS, c_367, c_374, c_384, h59]
            have heB : scB g9 σ = true := by simp [scB, c_367, c_374, c_384, h59]
            exact wr_z (b := (scB g9 σ)) b (by rw [heB]; rfl) rfl (by rw [heS]; exact hbr) (by rw [heS]; exact hP) hS hx hb hr dX4_succeeds_392 hlk
set_option maxHeartbeats 4000000 in
set_option maxRecDepth 100000 in
theorem c_X5_playTurn (l : Launch) (g : va_G) (cy : Nat → ClassId) (sz : Nat) (a : Nat → Nat) (σ : Nat → Nat) (b : Nat → Nat → Int32) (bd : Nat) (r9 : Nat) (hwf : WF bd σ) (hbr : BR σ b) (hr9 : r9 < 2 ^ 31) : Met l yX5_playTurn (Cond.code yX5_playTurn cX5_playTurn 3 (some .int) :: wsL_law) ({ frames := 5, cells := 0, slots := 0, locals := 122 } : Room) (va_Pc [.ref (a 0), .int (nI r9)] (pr g cy [(a 0, .inr (0, [.ref (a 1), .ref (a 4), .ref (a 6), .ref (a 8), .ref (a 9), .int (nI (σ 2)), .int (nI (σ 3)), .int (nI (σ 4)), .int (nI (σ 5)), .int (nI (σ 6)), .int (nI (σ 7))])), (a 1, .inr (2, [.ref (a 2), .ref (a 3), .int (nI (cmk σ))])), aI cy (a 2) 144 (wv σ), aI cy (a 3) 12 (b 1), (a 4, .inr (3, [.int (nI 6), .int (nI 11), .ref (a 5), .int (nI (σ 0))])), aI cy (a 5) 66 (b 2), (a 6, .inr (3, [.int (nI 20), .int (nI 6), .ref (a 7), .int (nI (σ 1))])), aI cy (a 7) 120 (b 3), aI cy (a 8) 8 (mS (pu σ)), aI cy (a 9) 6 (b 5)] sz)) (wr_Q (fun u9 : (Nat → Nat → Int32) × (Int32) => (some (.int u9.2))) (fun u9 : (Nat → Nat → Int32) × (Int32) => (BR (plR r9 σ) u9.1)) (fun u9 : (Nat → Nat → Int32) × (Int32) => [(a 0, .inr (0, [.ref (a 1), .ref (a 4), .ref (a 6), .ref (a 8), .ref (a 9), .int (nI ((plR r9 σ) 2)), .int (nI ((plR r9 σ) 3)), .int (nI ((plR r9 σ) 4)), .int (nI ((plR r9 σ) 5)), .int (nI ((plR r9 σ) 6)), .int (nI ((plR r9 σ) 7))])), (a 1, .inr (2, [.ref (a 2), .ref (a 3), .int (nI (cmk (plR r9 σ)))])), aI cy (a 2) 144 (wv (plR r9 σ)), aI cy (a 3) 12 (u9.1 1), (a 4, .inr (3, [.int (nI 6), .int (nI 11), .ref (a 5), .int (nI ((plR r9 σ) 0))])), aI cy (a 5) 66 (u9.1 2), (a 6, .inr (3, [.int (nI 20), .int (nI 6), .ref (a 7), .int (nI ((plR r9 σ) 1))])), aI cy (a 7) 120 (u9.1 3), aI cy (a 8) 8 (mS (pu (plR r9 σ))), aI cy (a 9) 6 (u9.1 5)]) g (va_A [(a 0, .inr (0, [.ref (a 1), .ref (a 4), .ref (a 6), .ref (a 8), .ref (a 9), .int (nI (σ 2)), .int (nI (σ 3)), .int (nI (σ 4)), .int (nI (σ 5)), .int (nI (σ 6)), .int (nI (σ 7))])), (a 1, .inr (2, [.ref (a 2), .ref (a 3), .int (nI (cmk σ))])), aI cy (a 2) 144 (wv σ), aI cy (a 3) 12 (b 1), (a 4, .inr (3, [.int (nI 6), .int (nI 11), .ref (a 5), .int (nI (σ 0))])), aI cy (a 5) 66 (b 2), (a 6, .inr (3, [.int (nI 20), .int (nI 6), .ref (a 7), .int (nI (σ 1))])), aI cy (a 7) 120 (b 3), aI cy (a 8) 8 (mS (pu σ)), aI cy (a 9) 6 (b 5)] sz)) 0 0 (va_A [(a 0, .inr (0, [.ref (a 1), .ref (a 4), .ref (a 6), .ref (a 8), .ref (a 9), .int (nI (σ 2)), .int (nI (σ 3)), .int (nI (σ 4)), .int (nI (σ 5)), .int (nI (σ 6)), .int (nI (σ 7))])), (a 1, .inr (2, [.ref (a 2), .ref (a 3), .int (nI (cmk σ))])), aI cy (a 2) 144 (wv σ), aI cy (a 3) 12 (b 1), (a 4, .inr (3, [.int (nI 6), .int (nI 11), .ref (a 5), .int (nI (σ 0))])), aI cy (a 5) 66 (b 2), (a 6, .inr (3, [.int (nI 20), .int (nI 6), .ref (a 7), .int (nI (σ 1))])), aI cy (a 7) 120 (b 3), aI cy (a 8) 8 (mS (pu σ)), aI cy (a 9) 6 (b 5)] sz) := by
  refine mt_of (cc := cX5_playTurn) (maxL := 3) (ret := (some .int)) (by decide +kernel) (Nat.le_of_ble_eq_true rfl) ?_
  intro pX eX s mX below meth cX ls A hx hb hr hml hown hts hlk hin hsz hAe hA hP hD hK hX hl
  subst hsz
  rw [← hAe]
  clear hAe
  have hl : lv_has ls 3 [(0, .ref (a 0)), (1, .int (nI r9))] := hl
  have hS : va_S A s.heap s.heap [] := va_S.rf
  have hn0 := hwf.n0
  have hn1 := hwf.n1
  have hh2 := hwf.h2
  refine lv_iload_n hx hb dX5_playTurn_0 rfl (lv_at hl 1 rfl) ?_
  refine lv_bipush (v := (nI 8)) hx hb dX5_playTurn_1 (by decide) ?_
  refine lv_idiv hx hb dX5_playTurn_3 (nI_ne0 (by omega) (by omega)) ?_
  refine ti (pk_div (a := r9) (d := 8) (by omega) (by omega) (by omega)) ?_
  refine lv_istore_n (lv' := [(2, .int (nI (r9 / 8))), (0, .ref (a 0)), (1, .int (nI r9))]) hx hb dX5_playTurn_4 rfl hl (by decide) rfl (fun ls hl => ?_)
  refine lv_iload_n hx hb dX5_playTurn_5 rfl (lv_at hl 2 rfl) ?_
  refine lv_bipush (v := (nI 8)) hx hb dX5_playTurn_6 (by decide) ?_
  refine lv_irem hx hb dX5_playTurn_8 (nI_ne0 (by omega) (by omega)) ?_
  refine ti (pk_rem (a := r9) (d := 8) (by omega) (by omega) (by omega)) ?_
  rcases sw_tab 0 6 (by decide) (nI (r9 % 8)) with h9 | ⟨j9, h9, c_9⟩
  · have c_9 := h9
    refine lv_tableOut (tgt := 201) hx hb dX5_playTurn_9 (by omega) (by decide) ?_
    have h9 : r9 % 8 = 6 ∨ r9 % 8 = 7 := by rw [nI_toInt (by omega)] at c_9; omega
    have k0 : ¬ r9 % 8 = 0 := by omega
    have k1 : ¬ r9 % 8 = 1 := by omega
    have k2 : ¬ r9 % 8 = 2 := by omega
    have k3 : ¬ r9 % 8 = 3 := by omega
    have k4 : ¬ r9 % 8 = 4 := by omega
    have k5 : ¬ r9 % 8 = 5 := by omega
    refine lv_aload_n hx hb dX5_playTurn_201 rfl (lv_at hl 1 rfl) ?_
    refine lv_iconst (v := (nI 1)) hx hb dX5_playTurn_202 (by decide) ?_
    refine lv_iload_n hx hb dX5_playTurn_203 rfl (lv_at hl 0 rfl) ?_
    refine lv_bipush (v := (nI 30)) hx hb dX5_playTurn_204 (by decide) ?_
    refine lv_irem hx hb dX5_playTurn_206 (nI_ne0 (by omega) (by omega)) ?_
    refine ti (pk_rem (a := (r9 / 8)) (d := 30) (by omega) (by omega) (by omega)) ?_
    refine lv_iadd hx hb dX5_playTurn_207 ?_
    refine ti (nI_add 1 ((r9 / 8) % 30)) ?_
    refine wr_call (wc := [(a 0, .inr (0, [.ref (a 1), .ref (a 4), .ref (a 6), .ref (a 8), .ref (a 9), .int (nI (σ 2)), .int (nI (σ 3)), .int (nI (σ 4)), .int (nI (σ 5)), .int (nI (σ 6)), .int (nI (σ 7))])), (a 1, .inr (2, [.ref (a 2), .ref (a 3), .int (nI (cmk σ))])), aI cy (a 2) 144 (wv σ), aI cy (a 3) 12 (b 1), (a 4, .inr (3, [.int (nI 6), .int (nI 11), .ref (a 5), .int (nI (σ 0))])), aI cy (a 5) 66 (b 2), (a 6, .inr (3, [.int (nI 20), .int (nI 6), .ref (a 7), .int (nI (σ 1))])), aI cy (a 7) 120 (b 3), aI cy (a 8) 8 (mS (pu σ)), aI cy (a 9) 6 (b 5)]) (va_runV (As := [.int (nI (1 + ((r9 / 8) % 30)))]) (rest := []) ⟨hx, hb, hml, hown, hts⟩ (c_X0_passHours l g cy  s.heap.size a σ b bd (nI (1 + ((r9 / 8) % 30))) hwf hbr) ⟨(cB 1 hts wd17_21 wd1_12 wd28_17 rfl rfl (by decide +kernel) ⟨Nat.le_of_ble_eq_true rfl, Nat.le_of_ble_eq_true rfl⟩), hts _ wd17_19, hts _ wd17_20⟩ (pv hK hP hD hS hA hX [0, 1, 2, 3, 4, 5, 6, 7, 8, 9] rfl rfl 0 0 rfl rfl) rfl rfl hl.1 rfl (lv_room (Nat.le_of_ble_eq_true rfl)) dX5_playTurn_208 ⟨Nat.zero_le _, Nat.zero_le _⟩) hP hD hS hA [0, 1, 2, 3, 4, 5, 6, 7, 8, 9] rfl rfl (fun _ => (rfl : ([a 0, a 1, a 2, a 3, a 4, a 5, a 6, a 7, a 8, a 9] : List Nat) = [a 0, a 1, a 2, a 3, a 4, a 5, a 6, a 7, a 8, a 9])) ?_
    rintro b1_208 H locs hbr_208 hP hD hS
    have hP : va_P g vwCl [(a 0, .inr (0, [.ref (a 1), .ref (a 4), .ref (a 6), .ref (a 8), .ref (a 9), .int (nI ((hoursR σ (nI (1 + ((r9 / 8) % 30)))) 2)), .int (nI ((hoursR σ (nI (1 + ((r9 / 8) % 30)))) 3)), .int (nI ((hoursR σ (nI (1 + ((r9 / 8) % 30)))) 4)), .int (nI ((hoursR σ (nI (1 + ((r9 / 8) % 30)))) 5)), .int (nI ((hoursR σ (nI (1 + ((r9 / 8) % 30)))) 6)), .int (nI ((hoursR σ (nI (1 + ((r9 / 8) % 30)))) 7))])), (a 1, .inr (2, [.ref (a 2), .ref (a 3), .int (nI (cmk (hoursR σ (nI (1 + ((r9 / 8) % 30))))))])), aI cy (a 2) 144 (wv (hoursR σ (nI (1 + ((r9 / 8) % 30))))), aI cy (a 3) 12 (b1_208 1), (a 4, .inr (3, [.int (nI 6), .int (nI 11), .ref (a 5), .int (nI ((hoursR σ (nI (1 + ((r9 / 8) % 30)))) 0))])), aI cy (a 5) 66 (b1_208 2), (a 6, .inr (3, [.int (nI 20), .int (nI 6), .ref (a 7), .int (nI ((hoursR σ (nI (1 + ((r9 / 8) % 30)))) 1))])), aI cy (a 7) 120 (b1_208 3), aI cy (a 8) 8 (mS (pu (hoursR σ (nI (1 + ((r9 / 8) % 30)))))), aI cy (a 9) 6 (b1_208 5)] H := hP
    have hD : va_D A [(a 0, .inr (0, [.ref (a 1), .ref (a 4), .ref (a 6), .ref (a 8), .ref (a 9), .int (nI ((hoursR σ (nI (1 + ((r9 / 8) % 30)))) 2)), .int (nI ((hoursR σ (nI (1 + ((r9 / 8) % 30)))) 3)), .int (nI ((hoursR σ (nI (1 + ((r9 / 8) % 30)))) 4)), .int (nI ((hoursR σ (nI (1 + ((r9 / 8) % 30)))) 5)), .int (nI ((hoursR σ (nI (1 + ((r9 / 8) % 30)))) 6)), .int (nI ((hoursR σ (nI (1 + ((r9 / 8) % 30)))) 7))])), (a 1, .inr (2, [.ref (a 2), .ref (a 3), .int (nI (cmk (hoursR σ (nI (1 + ((r9 / 8) % 30))))))])), aI cy (a 2) 144 (wv (hoursR σ (nI (1 + ((r9 / 8) % 30))))), aI cy (a 3) 12 (b1_208 1), (a 4, .inr (3, [.int (nI 6), .int (nI 11), .ref (a 5), .int (nI ((hoursR σ (nI (1 + ((r9 / 8) % 30)))) 0))])), aI cy (a 5) 66 (b1_208 2), (a 6, .inr (3, [.int (nI 20), .int (nI 6), .ref (a 7), .int (nI ((hoursR σ (nI (1 + ((r9 / 8) % 30)))) 1))])), aI cy (a 7) 120 (b1_208 3), aI cy (a 8) 8 (mS (pu (hoursR σ (nI (1 + ((r9 / 8) % 30)))))), aI cy (a 9) 6 (b1_208 5)] := hD
    have hbr_208 : BR (hoursR σ (nI (1 + ((r9 / 8) % 30)))) b1_208 := hbr_208
    show W _ _ _ _ _ _ _ _ _ _ _ _ _ _ _ (F0 mX 211 ls [.int (nI (hoursA σ (nI (1 + ((r9 / 8) % 30)))))])
    have heS : plR r9 σ = hoursR σ (nI (1 + ((r9 / 8) % 30))) := by simp [plR, k0, k1, k2, k3, k4, k5]
    exact wr_i (b1_208, (nI (hoursA σ (nI (1 + ((r9 / 8) % 30)))))) rfl (by rw [heS]; exact hbr_208) (by rw [heS]; exact hP) hS hx hb hr dX5_playTurn_211 hlk
  · rcases (show j9 = 0 ∨ j9 = 1 ∨ j9 = 2 ∨ j9 = 3 ∨ j9 = 4 ∨ j9 = 5 by omega) with rfl | rfl | rfl | rfl | rfl | rfl
    · have c_9 : (nI (r9 % 8)) = nI 0 := c_9
      refine lv_tableIn (tgt := 48) (off := 39) hx hb dX5_playTurn_9 (by rw [c_9]; decide) (by rw [c_9]; decide) (by rw [c_9]; decide) (by decide) ?_
      have h9 : r9 % 8 = 0 := nc_eq (by omega) (by decide) c_9
      refine lv_aload_n hx hb dX5_playTurn_48 rfl (lv_at hl 1 rfl) ?_
      refine lv_iconst (v := (nI 1)) hx hb dX5_playTurn_49 (by decide) ?_
      refine lv_iload_n hx hb dX5_playTurn_50 rfl (lv_at hl 0 rfl) ?_
      refine lv_sipush (v := (nI 255)) hx hb dX5_playTurn_51 (by decide) ?_
      refine lv_irem hx hb dX5_playTurn_54 (nI_ne0 (by omega) (by omega)) ?_
      refine ti (pk_rem (a := (r9 / 8)) (d := 255) (by omega) (by omega) (by omega)) ?_
      refine lv_iadd hx hb dX5_playTurn_55 ?_
      refine ti (nI_add 1 ((r9 / 8) % 255)) ?_
      refine lv_iconst (v := (nI 1)) hx hb dX5_playTurn_56 (by decide) ?_
      refine lv_iload_n hx hb dX5_playTurn_57 rfl (lv_at hl 0 rfl) ?_
      refine lv_sipush (v := (nI 256)) hx hb dX5_playTurn_58 (by decide) ?_
      refine lv_idiv hx hb dX5_playTurn_61 (nI_ne0 (by omega) (by omega)) ?_
      refine ti (pk_div (a := (r9 / 8)) (d := 256) (by omega) (by omega) (by omega)) ?_
      refine lv_iconst (v := (nI 3)) hx hb dX5_playTurn_62 (by decide) ?_
      refine lv_irem hx hb dX5_playTurn_63 (nI_ne0 (by omega) (by omega)) ?_
      refine ti (pk_rem (a := ((r9 / 8) / 256)) (d := 3) (by omega) (by omega) (by omega)) ?_
      refine lv_iadd hx hb dX5_playTurn_64 ?_
      refine ti (nI_add 1 (((r9 / 8) / 256) % 3)) ?_
      refine lv_iload_n hx hb dX5_playTurn_65 rfl (lv_at hl 0 rfl) ?_
      refine lv_sipush (v := (nI 1024)) hx hb dX5_playTurn_66 (by decide) ?_
      refine lv_idiv hx hb dX5_playTurn_69 (nI_ne0 (by omega) (by omega)) ?_
      refine ti (pk_div (a := (r9 / 8)) (d := 1024) (by omega) (by omega) (by omega)) ?_
      refine lv_bipush (v := (nI 12)) hx hb dX5_playTurn_70 (by decide) ?_
      refine lv_irem hx hb dX5_playTurn_72 (nI_ne0 (by omega) (by omega)) ?_
      refine ti (pk_rem (a := ((r9 / 8) / 1024)) (d := 12) (by omega) (by omega) (by omega)) ?_
      refine lv_iconst (v := (nI 1)) hx hb dX5_playTurn_73 (by decide) ?_
      refine lv_iload_n hx hb dX5_playTurn_74 rfl (lv_at hl 0 rfl) ?_
      refine lv_sipush (v := (nI 16384)) hx hb dX5_playTurn_75 (by decide) ?_
      refine lv_idiv hx hb dX5_playTurn_78 (nI_ne0 (by omega) (by omega)) ?_
      refine ti (pk_div (a := (r9 / 8)) (d := 16384) (by omega) (by omega) (by omega)) ?_
      refine lv_sipush (v := (nI 500)) hx hb dX5_playTurn_79 (by decide) ?_
      refine lv_irem hx hb dX5_playTurn_82 (nI_ne0 (by omega) (by omega)) ?_
      refine ti (pk_rem (a := ((r9 / 8) / 16384)) (d := 500) (by omega) (by omega) (by omega)) ?_
      refine lv_iadd hx hb dX5_playTurn_83 ?_
      refine ti (nI_add 1 (((r9 / 8) / 16384) % 500)) ?_
      refine wr_call (wc := [(a 0, .inr (0, [.ref (a 1), .ref (a 4), .ref (a 6), .ref (a 8), .ref (a 9), .int (nI (σ 2)), .int (nI (σ 3)), .int (nI (σ 4)), .int (nI (σ 5)), .int (nI (σ 6)), .int (nI (σ 7))])), (a 1, .inr (2, [.ref (a 2), .ref (a 3), .int (nI (cmk σ))])), aI cy (a 2) 144 (wv σ), aI cy (a 3) 12 (b 1), (a 4, .inr (3, [.int (nI 6), .int (nI 11), .ref (a 5), .int (nI (σ 0))])), aI cy (a 5) 66 (b 2), (a 6, .inr (3, [.int (nI 20), .int (nI 6), .ref (a 7), .int (nI (σ 1))])), aI cy (a 7) 120 (b 3), aI cy (a 8) 8 (mS (pu σ)), aI cy (a 9) 6 (b 5)]) (va_runV (As := [.int (nI (1 + ((r9 / 8) % 255))), .int (nI (1 + (((r9 / 8) / 256) % 3))), .int (nI (((r9 / 8) / 1024) % 12)), .int (nI (1 + (((r9 / 8) / 16384) % 500)))]) (rest := []) ⟨hx, hb, hml, hown, hts⟩ (c_X0_loseDog l g cy  s.heap.size a σ b bd (nI (1 + ((r9 / 8) % 255))) (nI (1 + (((r9 / 8) / 256) % 3))) (nI (((r9 / 8) / 1024) % 12)) (nI (1 + (((r9 / 8) / 16384) % 500))) hwf hbr) ⟨(cB 4 hts wd8_17 wd1_12 wd28_13 rfl rfl (by decide +kernel) ⟨Nat.le_of_ble_eq_true rfl, Nat.le_of_ble_eq_true rfl⟩), hts _ wd8_15, hts _ wd8_16⟩ (pv hK hP hD hS hA hX [0, 1, 2, 3, 4, 5, 6, 7, 8, 9] rfl rfl 0 0 rfl rfl) rfl rfl hl.1 rfl (lv_room (Nat.le_of_ble_eq_true rfl)) dX5_playTurn_84 ⟨Nat.zero_le _, Nat.zero_le _⟩) hP hD hS hA [0, 1, 2, 3, 4, 5, 6, 7, 8, 9] rfl rfl (fun _ => (rfl : ([a 0, a 1, a 2, a 3, a 4, a 5, a 6, a 7, a 8, a 9] : List Nat) = [a 0, a 1, a 2, a 3, a 4, a 5, a 6, a 7, a 8, a 9])) ?_
      rintro b1_84 H locs hbr_84 hP hD hS
      have hP : va_P g vwCl [(a 0, .inr (0, [.ref (a 1), .ref (a 4), .ref (a 6), .ref (a 8), .ref (a 9), .int (nI ((loseR σ (nI (1 + ((r9 / 8) % 255))) (nI (1 + (((r9 / 8) / 256) % 3))) (nI (((r9 / 8) / 1024) % 12)) (nI (1 + (((r9 / 8) / 16384) % 500)))) 2)), .int (nI ((loseR σ (nI (1 + ((r9 / 8) % 255))) (nI (1 + (((r9 / 8) / 256) % 3))) (nI (((r9 / 8) / 1024) % 12)) (nI (1 + (((r9 / 8) / 16384) % 500)))) 3)), .int (nI ((loseR σ (nI (1 + ((r9 / 8) % 255))) (nI (1 + (((r9 / 8) / 256) % 3))) (nI (((r9 / 8) / 1024) % 12)) (nI (1 + (((r9 / 8) / 16384) % 500)))) 4)), .int (nI ((loseR σ (nI (1 + ((r9 / 8) % 255))) (nI (1 + (((r9 / 8) / 256) % 3))) (nI (((r9 / 8) / 1024) % 12)) (nI (1 + (((r9 / 8) / 16384) % 500)))) 5)), .int (nI ((loseR σ (nI (1 + ((r9 / 8) % 255))) (nI (1 + (((r9 / 8) / 256) % 3))) (nI (((r9 / 8) / 1024) % 12)) (nI (1 + (((r9 / 8) / 16384) % 500)))) 6)), .int (nI ((loseR σ (nI (1 + ((r9 / 8) % 255))) (nI (1 + (((r9 / 8) / 256) % 3))) (nI (((r9 / 8) / 1024) % 12)) (nI (1 + (((r9 / 8) / 16384) % 500)))) 7))])), (a 1, .inr (2, [.ref (a 2), .ref (a 3), .int (nI (cmk (loseR σ (nI (1 + ((r9 / 8) % 255))) (nI (1 + (((r9 / 8) / 256) % 3))) (nI (((r9 / 8) / 1024) % 12)) (nI (1 + (((r9 / 8) / 16384) % 500))))))])), aI cy (a 2) 144 (wv (loseR σ (nI (1 + ((r9 / 8) % 255))) (nI (1 + (((r9 / 8) / 256) % 3))) (nI (((r9 / 8) / 1024) % 12)) (nI (1 + (((r9 / 8) / 16384) % 500))))), aI cy (a 3) 12 (b1_84 1), (a 4, .inr (3, [.int (nI 6), .int (nI 11), .ref (a 5), .int (nI ((loseR σ (nI (1 + ((r9 / 8) % 255))) (nI (1 + (((r9 / 8) / 256) % 3))) (nI (((r9 / 8) / 1024) % 12)) (nI (1 + (((r9 / 8) / 16384) % 500)))) 0))])), aI cy (a 5) 66 (b1_84 2), (a 6, .inr (3, [.int (nI 20), .int (nI 6), .ref (a 7), .int (nI ((loseR σ (nI (1 + ((r9 / 8) % 255))) (nI (1 + (((r9 / 8) / 256) % 3))) (nI (((r9 / 8) / 1024) % 12)) (nI (1 + (((r9 / 8) / 16384) % 500)))) 1))])), aI cy (a 7) 120 (b1_84 3), aI cy (a 8) 8 (mS (pu (loseR σ (nI (1 + ((r9 / 8) % 255))) (nI (1 + (((r9 / 8) / 256) % 3))) (nI (((r9 / 8) / 1024) % 12)) (nI (1 + (((r9 / 8) / 16384) % 500)))))), aI cy (a 9) 6 (b1_84 5)] H := hP
      have hD : va_D A [(a 0, .inr (0, [.ref (a 1), .ref (a 4), .ref (a 6), .ref (a 8), .ref (a 9), .int (nI ((loseR σ (nI (1 + ((r9 / 8) % 255))) (nI (1 + (((r9 / 8) / 256) % 3))) (nI (((r9 / 8) / 1024) % 12)) (nI (1 + (((r9 / 8) / 16384) % 500)))) 2)), .int (nI ((loseR σ (nI (1 + ((r9 / 8) % 255))) (nI (1 + (((r9 / 8) / 256) % 3))) (nI (((r9 / 8) / 1024) % 12)) (nI (1 + (((r9 / 8) / 16384) % 500)))) 3)), .int (nI ((loseR σ (nI (1 + ((r9 / 8) % 255))) (nI (1 + (((r9 / 8) / 256) % 3))) (nI (((r9 / 8) / 1024) % 12)) (nI (1 + (((r9 / 8) / 16384) % 500)))) 4)), .int (nI ((loseR σ (nI (1 + ((r9 / 8) % 255))) (nI (1 + (((r9 / 8) / 256) % 3))) (nI (((r9 / 8) / 1024) % 12)) (nI (1 + (((r9 / 8) / 16384) % 500)))) 5)), .int (nI ((loseR σ (nI (1 + ((r9 / 8) % 255))) (nI (1 + (((r9 / 8) / 256) % 3))) (nI (((r9 / 8) / 1024) % 12)) (nI (1 + (((r9 / 8) / 16384) % 500)))) 6)), .int (nI ((loseR σ (nI (1 + ((r9 / 8) % 255))) (nI (1 + (((r9 / 8) / 256) % 3))) (nI (((r9 / 8) / 1024) % 12)) (nI (1 + (((r9 / 8) / 16384) % 500)))) 7))])), (a 1, .inr (2, [.ref (a 2), .ref (a 3), .int (nI (cmk (loseR σ (nI (1 + ((r9 / 8) % 255))) (nI (1 + (((r9 / 8) / 256) % 3))) (nI (((r9 / 8) / 1024) % 12)) (nI (1 + (((r9 / 8) / 16384) % 500))))))])), aI cy (a 2) 144 (wv (loseR σ (nI (1 + ((r9 / 8) % 255))) (nI (1 + (((r9 / 8) / 256) % 3))) (nI (((r9 / 8) / 1024) % 12)) (nI (1 + (((r9 / 8) / 16384) % 500))))), aI cy (a 3) 12 (b1_84 1), (a 4, .inr (3, [.int (nI 6), .int (nI 11), .ref (a 5), .int (nI ((loseR σ (nI (1 + ((r9 / 8) % 255))) (nI (1 + (((r9 / 8) / 256) % 3))) (nI (((r9 / 8) / 1024) % 12)) (nI (1 + (((r9 / 8) / 16384) % 500)))) 0))])), aI cy (a 5) 66 (b1_84 2), (a 6, .inr (3, [.int (nI 20), .int (nI 6), .ref (a 7), .int (nI ((loseR σ (nI (1 + ((r9 / 8) % 255))) (nI (1 + (((r9 / 8) / 256) % 3))) (nI (((r9 / 8) / 1024) % 12)) (nI (1 + (((r9 / 8) / 16384) % 500)))) 1))])), aI cy (a 7) 120 (b1_84 3), aI cy (a 8) 8 (mS (pu (loseR σ (nI (1 + ((r9 / 8) % 255))) (nI (1 + (((r9 / 8) / 256) % 3))) (nI (((r9 / 8) / 1024) % 12)) (nI (1 + (((r9 / 8) / 16384) % 500)))))), aI cy (a 9) 6 (b1_84 5)] := hD
      have hbr_84 : BR (loseR σ (nI (1 + ((r9 / 8) % 255))) (nI (1 + (((r9 / 8) / 256) % 3))) (nI (((r9 / 8) / 1024) % 12)) (nI (1 + (((r9 / 8) / 16384) % 500)))) b1_84 := hbr_84
      show W _ _ _ _ _ _ _ _ _ _ _ _ _ _ _ (F0 mX 87 ls [.int (nI (if fLose σ (nI (1 + ((r9 / 8) % 255))) (nI (1 + (((r9 / 8) / 256) % 3))) (nI (((r9 / 8) / 1024) % 12)) (nI (1 + (((r9 / 8) / 16384) % 500))) = 0 then σ 0 else NN2))])
      have heS : plR r9 σ = loseR σ (nI (1 + ((r9 / 8) % 255))) (nI (1 + (((r9 / 8) / 256) % 3))) (nI (((r9 / 8) / 1024) % 12)) (nI (1 + (((r9 / 8) / 16384) % 500))) := by simp [plR, h9]
      exact wr_i (b1_84, (nI (if fLose σ (nI (1 + ((r9 / 8) % 255))) (nI (1 + (((r9 / 8) / 256) % 3))) (nI (((r9 / 8) / 1024) % 12)) (nI (1 + (((r9 / 8) / 16384) % 500))) = 0 then σ 0 else NN2))) rfl (by rw [heS]; exact hbr_84) (by rw [heS]; exact hP) hS hx hb hr dX5_playTurn_87 hlk
    · have c_9 : (nI (r9 % 8)) = nI 1 := c_9
      refine lv_tableIn (tgt := 88) (off := 79) hx hb dX5_playTurn_9 (by rw [c_9]; decide) (by rw [c_9]; decide) (by rw [c_9]; decide) (by decide) ?_
      have h9 : r9 % 8 = 1 := nc_eq (by omega) (by decide) c_9
      refine lv_aload_n hx hb dX5_playTurn_88 rfl (lv_at hl 1 rfl) ?_
      refine lv_iload_n hx hb dX5_playTurn_89 rfl (lv_at hl 0 rfl) ?_
      refine lv_bipush (v := (nI 8)) hx hb dX5_playTurn_90 (by decide) ?_
      refine lv_irem hx hb dX5_playTurn_92 (nI_ne0 (by omega) (by omega)) ?_
      refine ti (pk_rem (a := (r9 / 8)) (d := 8) (by omega) (by omega) (by omega)) ?_
      refine lv_iload_n hx hb dX5_playTurn_93 rfl (lv_at hl 0 rfl) ?_
      refine lv_bipush (v := (nI 8)) hx hb dX5_playTurn_94 (by decide) ?_
      refine lv_idiv hx hb dX5_playTurn_96 (nI_ne0 (by omega) (by omega)) ?_
      refine ti (pk_div (a := (r9 / 8)) (d := 8) (by omega) (by omega) (by omega)) ?_
      refine lv_bipush (v := (nI 12)) hx hb dX5_playTurn_97 (by decide) ?_
      refine lv_irem hx hb dX5_playTurn_99 (nI_ne0 (by omega) (by omega)) ?_
      refine ti (pk_rem (a := ((r9 / 8) / 8)) (d := 12) (by omega) (by omega) (by omega)) ?_
      refine lv_iload_n hx hb dX5_playTurn_100 rfl (lv_at hl 0 rfl) ?_
      refine lv_sipush (v := (nI 128)) hx hb dX5_playTurn_101 (by decide) ?_
      refine lv_idiv hx hb dX5_playTurn_104 (nI_ne0 (by omega) (by omega)) ?_
      refine ti (pk_div (a := (r9 / 8)) (d := 128) (by omega) (by omega) (by omega)) ?_
      refine lv_sipush (v := (nI 256)) hx hb dX5_playTurn_105 (by decide) ?_
      refine lv_irem hx hb dX5_playTurn_108 (nI_ne0 (by omega) (by omega)) ?_
      refine ti (pk_rem (a := ((r9 / 8) / 128)) (d := 256) (by omega) (by omega) (by omega)) ?_
      refine lv_iload_n hx hb dX5_playTurn_109 rfl (lv_at hl 0 rfl) ?_
      refine lv_ldc hx hb hown (hts _ wd28_11) dX5_playTurn_110 ?_
      refine ti (show (32768 : Int32) = nI 32768 from by decide) ?_
      refine lv_idiv hx hb dX5_playTurn_112 (nI_ne0 (by omega) (by omega)) ?_
      refine ti (pk_div (a := (r9 / 8)) (d := 32768) (by omega) (by omega) (by omega)) ?_
      refine lv_bipush (v := (nI 6)) hx hb dX5_playTurn_113 (by decide) ?_
      refine lv_irem hx hb dX5_playTurn_115 (nI_ne0 (by omega) (by omega)) ?_
      refine ti (pk_rem (a := ((r9 / 8) / 32768)) (d := 6) (by omega) (by omega) (by omega)) ?_
      refine jn_i (pcj := 131) (ls := ls) (st := [.int (nI (((r9 / 8) / 32768) % 6)), .int (nI (((r9 / 8) / 128) % 256)), .int (nI (((r9 / 8) / 8) % 12)), .int (nI ((r9 / 8) % 8)), .ref (a 0)]) (fun v9 => v9 = (bI (decide (r9 / 8 / 262144 % 2 = 1)))) ?_ (fun jn131 => ?_)
      · intro v9 hv9
        subst hv9
        refine wr_call (wc := [(a 0, .inr (0, [.ref (a 1), .ref (a 4), .ref (a 6), .ref (a 8), .ref (a 9), .int (nI (σ 2)), .int (nI (σ 3)), .int (nI (σ 4)), .int (nI (σ 5)), .int (nI (σ 6)), .int (nI (σ 7))])), (a 1, .inr (2, [.ref (a 2), .ref (a 3), .int (nI (cmk σ))])), aI cy (a 2) 144 (wv σ), aI cy (a 3) 12 (b 1), (a 4, .inr (3, [.int (nI 6), .int (nI 11), .ref (a 5), .int (nI (σ 0))])), aI cy (a 5) 66 (b 2), (a 6, .inr (3, [.int (nI 20), .int (nI 6), .ref (a 7), .int (nI (σ 1))])), aI cy (a 7) 120 (b 3), aI cy (a 8) 8 (mS (pu σ)), aI cy (a 9) 6 (b 5)]) (va_runV (As := [.int (nI ((r9 / 8) % 8)), .int (nI (((r9 / 8) / 8) % 12)), .int (nI (((r9 / 8) / 128) % 256)), .int (nI (((r9 / 8) / 32768) % 6)), .int (bI (decide (r9 / 8 / 262144 % 2 = 1)))]) (rest := []) ⟨hx, hb, hml, hown, hts⟩ (c_X0_tellSighting l g cy  s.heap.size a σ b bd (nI ((r9 / 8) % 8)) (nI (((r9 / 8) / 8) % 12)) (nI (((r9 / 8) / 128) % 256)) (nI (((r9 / 8) / 32768) % 6)) (decide (r9 / 8 / 262144 % 2 = 1)) hwf hbr) ⟨(cB 5 hts wd13_1 wd1_12 wd28_14 rfl rfl (by decide +kernel) ⟨Nat.le_of_ble_eq_true rfl, Nat.le_of_ble_eq_true rfl⟩), hts _ wd12_23, hts _ wd13_0⟩ (pv hK hP hD hS hA hX [0, 1, 2, 3, 4, 5, 6, 7, 8, 9] rfl rfl 0 0 rfl rfl) rfl rfl hl.1 rfl (lv_room (Nat.le_of_ble_eq_true rfl)) dX5_playTurn_131 ⟨Nat.zero_le _, Nat.zero_le _⟩) hP hD hS hA [0, 1, 2, 3, 4, 5, 6, 7, 8, 9] rfl rfl (fun _ => (rfl : ([a 0, a 1, a 2, a 3, a 4, a 5, a 6, a 7, a 8, a 9] : List Nat) = [a 0, a 1, a 2, a 3, a 4, a 5, a 6, a 7, a 8, a 9])) ?_
        rintro b1_131 H locs hbr_131 hP hD hS
        have hP : va_P g vwCl [(a 0, .inr (0, [.ref (a 1), .ref (a 4), .ref (a 6), .ref (a 8), .ref (a 9), .int (nI ((sightR σ (nI ((r9 / 8) % 8)) (nI (((r9 / 8) / 8) % 12)) (nI (((r9 / 8) / 128) % 256)) (nI (((r9 / 8) / 32768) % 6)) (decide (r9 / 8 / 262144 % 2 = 1))) 2)), .int (nI ((sightR σ (nI ((r9 / 8) % 8)) (nI (((r9 / 8) / 8) % 12)) (nI (((r9 / 8) / 128) % 256)) (nI (((r9 / 8) / 32768) % 6)) (decide (r9 / 8 / 262144 % 2 = 1))) 3)), .int (nI ((sightR σ (nI ((r9 / 8) % 8)) (nI (((r9 / 8) / 8) % 12)) (nI (((r9 / 8) / 128) % 256)) (nI (((r9 / 8) / 32768) % 6)) (decide (r9 / 8 / 262144 % 2 = 1))) 4)), .int (nI ((sightR σ (nI ((r9 / 8) % 8)) (nI (((r9 / 8) / 8) % 12)) (nI (((r9 / 8) / 128) % 256)) (nI (((r9 / 8) / 32768) % 6)) (decide (r9 / 8 / 262144 % 2 = 1))) 5)), .int (nI ((sightR σ (nI ((r9 / 8) % 8)) (nI (((r9 / 8) / 8) % 12)) (nI (((r9 / 8) / 128) % 256)) (nI (((r9 / 8) / 32768) % 6)) (decide (r9 / 8 / 262144 % 2 = 1))) 6)), .int (nI ((sightR σ (nI ((r9 / 8) % 8)) (nI (((r9 / 8) / 8) % 12)) (nI (((r9 / 8) / 128) % 256)) (nI (((r9 / 8) / 32768) % 6)) (decide (r9 / 8 / 262144 % 2 = 1))) 7))])), (a 1, .inr (2, [.ref (a 2), .ref (a 3), .int (nI (cmk (sightR σ (nI ((r9 / 8) % 8)) (nI (((r9 / 8) / 8) % 12)) (nI (((r9 / 8) / 128) % 256)) (nI (((r9 / 8) / 32768) % 6)) (decide (r9 / 8 / 262144 % 2 = 1)))))])), aI cy (a 2) 144 (wv (sightR σ (nI ((r9 / 8) % 8)) (nI (((r9 / 8) / 8) % 12)) (nI (((r9 / 8) / 128) % 256)) (nI (((r9 / 8) / 32768) % 6)) (decide (r9 / 8 / 262144 % 2 = 1)))), aI cy (a 3) 12 (b1_131 1), (a 4, .inr (3, [.int (nI 6), .int (nI 11), .ref (a 5), .int (nI ((sightR σ (nI ((r9 / 8) % 8)) (nI (((r9 / 8) / 8) % 12)) (nI (((r9 / 8) / 128) % 256)) (nI (((r9 / 8) / 32768) % 6)) (decide (r9 / 8 / 262144 % 2 = 1))) 0))])), aI cy (a 5) 66 (b1_131 2), (a 6, .inr (3, [.int (nI 20), .int (nI 6), .ref (a 7), .int (nI ((sightR σ (nI ((r9 / 8) % 8)) (nI (((r9 / 8) / 8) % 12)) (nI (((r9 / 8) / 128) % 256)) (nI (((r9 / 8) / 32768) % 6)) (decide (r9 / 8 / 262144 % 2 = 1))) 1))])), aI cy (a 7) 120 (b1_131 3), aI cy (a 8) 8 (mS (pu (sightR σ (nI ((r9 / 8) % 8)) (nI (((r9 / 8) / 8) % 12)) (nI (((r9 / 8) / 128) % 256)) (nI (((r9 / 8) / 32768) % 6)) (decide (r9 / 8 / 262144 % 2 = 1))))), aI cy (a 9) 6 (b1_131 5)] H := hP
        have hD : va_D A [(a 0, .inr (0, [.ref (a 1), .ref (a 4), .ref (a 6), .ref (a 8), .ref (a 9), .int (nI ((sightR σ (nI ((r9 / 8) % 8)) (nI (((r9 / 8) / 8) % 12)) (nI (((r9 / 8) / 128) % 256)) (nI (((r9 / 8) / 32768) % 6)) (decide (r9 / 8 / 262144 % 2 = 1))) 2)), .int (nI ((sightR σ (nI ((r9 / 8) % 8)) (nI (((r9 / 8) / 8) % 12)) (nI (((r9 / 8) / 128) % 256)) (nI (((r9 / 8) / 32768) % 6)) (decide (r9 / 8 / 262144 % 2 = 1))) 3)), .int (nI ((sightR σ (nI ((r9 / 8) % 8)) (nI (((r9 / 8) / 8) % 12)) (nI (((r9 / 8) / 128) % 256)) (nI (((r9 / 8) / 32768) % 6)) (decide (r9 / 8 / 262144 % 2 = 1))) 4)), .int (nI ((sightR σ (nI ((r9 / 8) % 8)) (nI (((r9 / 8) / 8) % 12)) (nI (((r9 / 8) / 128) % 256)) (nI (((r9 / 8) / 32768) % 6)) (decide (r9 / 8 / 262144 % 2 = 1))) 5)), .int (nI ((sightR σ (nI ((r9 / 8) % 8)) (nI (((r9 / 8) / 8) % 12)) (nI (((r9 / 8) / 128) % 256)) (nI (((r9 / 8) / 32768) % 6)) (decide (r9 / 8 / 262144 % 2 = 1))) 6)), .int (nI ((sightR σ (nI ((r9 / 8) % 8)) (nI (((r9 / 8) / 8) % 12)) (nI (((r9 / 8) / 128) % 256)) (nI (((r9 / 8) / 32768) % 6)) (decide (r9 / 8 / 262144 % 2 = 1))) 7))])), (a 1, .inr (2, [.ref (a 2), .ref (a 3), .int (nI (cmk (sightR σ (nI ((r9 / 8) % 8)) (nI (((r9 / 8) / 8) % 12)) (nI (((r9 / 8) / 128) % 256)) (nI (((r9 / 8) / 32768) % 6)) (decide (r9 / 8 / 262144 % 2 = 1)))))])), aI cy (a 2) 144 (wv (sightR σ (nI ((r9 / 8) % 8)) (nI (((r9 / 8) / 8) % 12)) (nI (((r9 / 8) / 128) % 256)) (nI (((r9 / 8) / 32768) % 6)) (decide (r9 / 8 / 262144 % 2 = 1)))), aI cy (a 3) 12 (b1_131 1), (a 4, .inr (3, [.int (nI 6), .int (nI 11), .ref (a 5), .int (nI ((sightR σ (nI ((r9 / 8) % 8)) (nI (((r9 / 8) / 8) % 12)) (nI (((r9 / 8) / 128) % 256)) (nI (((r9 / 8) / 32768) % 6)) (decide (r9 / 8 / 262144 % 2 = 1))) 0))])), aI cy (a 5) 66 (b1_131 2), (a 6, .inr (3, [.int (nI 20), .int (nI 6), .ref (a 7), .int (nI ((sightR σ (nI ((r9 / 8) % 8)) (nI (((r9 / 8) / 8) % 12)) (nI (((r9 / 8) / 128) % 256)) (nI (((r9 / 8) / 32768) % 6)) (decide (r9 / 8 / 262144 % 2 = 1))) 1))])), aI cy (a 7) 120 (b1_131 3), aI cy (a 8) 8 (mS (pu (sightR σ (nI ((r9 / 8) % 8)) (nI (((r9 / 8) / 8) % 12)) (nI (((r9 / 8) / 128) % 256)) (nI (((r9 / 8) / 32768) % 6)) (decide (r9 / 8 / 262144 % 2 = 1))))), aI cy (a 9) 6 (b1_131 5)] := hD
        have hbr_131 : BR (sightR σ (nI ((r9 / 8) % 8)) (nI (((r9 / 8) / 8) % 12)) (nI (((r9 / 8) / 128) % 256)) (nI (((r9 / 8) / 32768) % 6)) (decide (r9 / 8 / 262144 % 2 = 1))) b1_131 := hbr_131
        show W _ _ _ _ _ _ _ _ _ _ _ _ _ _ _ (F0 mX 134 ls [.int (nI (sightA σ (nI ((r9 / 8) % 8)) (nI (((r9 / 8) / 8) % 12)) (nI (((r9 / 8) / 128) % 256)) (nI (((r9 / 8) / 32768) % 6))))])
        have heS : plR r9 σ = sightR σ (nI ((r9 / 8) % 8)) (nI (((r9 / 8) / 8) % 12)) (nI (((r9 / 8) / 128) % 256)) (nI (((r9 / 8) / 32768) % 6)) (decide (r9 / 8 / 262144 % 2 = 1)) := by simp [plR, h9]
        exact wr_i (b1_131, (nI (sightA σ (nI ((r9 / 8) % 8)) (nI (((r9 / 8) / 8) % 12)) (nI (((r9 / 8) / 128) % 256)) (nI (((r9 / 8) / 32768) % 6))))) rfl (by rw [heS]; exact hbr_131) (by rw [heS]; exact hP) hS hx hb hr dX5_playTurn_134 hlk
      · skip
        refine lv_iload_n hx hb dX5_playTurn_116 rfl (lv_at hl 0 rfl) ?_
        refine lv_ldc hx hb hown (hts _ wd28_12) dX5_playTurn_117 ?_
        refine ti (show (262144 : Int32) = nI 262144 from by decide) ?_
        refine lv_idiv hx hb dX5_playTurn_119 (nI_ne0 (by omega) (by omega)) ?_
        refine ti (pk_div (a := (r9 / 8)) (d := 262144) (by omega) (by omega) (by omega)) ?_
        refine lv_iconst (v := (nI 2)) hx hb dX5_playTurn_120 (by decide) ?_
        refine lv_irem hx hb dX5_playTurn_121 (nI_ne0 (by omega) (by omega)) ?_
        refine ti (pk_rem (a := ((r9 / 8) / 262144)) (d := 2) (by omega) (by omega) (by omega)) ?_
        refine lv_iconst (v := (nI 1)) hx hb dX5_playTurn_122 (by decide) ?_
        refine lv_icmp_ne (tgt := 130) hx hb dX5_playTurn_123 (by decide) (fun c_123 => ?_) (fun c_123 => ?_)
        · have c_123 := (nc_ne9 (by omega) (by omega) c_123)
          refine lv_iconst (v := (nI 0)) hx hb dX5_playTurn_130 (by decide) ?_
          exact jn131 _ (by simp [c_123, bI, nI_0, nI_o])
        · have c_123 := (nc_eq9 (by omega) (by omega) c_123)
          refine lv_iconst (v := (nI 1)) hx hb dX5_playTurn_126 (by decide) ?_
          refine lv_goto (tgt := 131) hx hb dX5_playTurn_127 (by decide) ?_
          exact jn131 _ (by simp [c_123, bI, nI_0, nI_o])
    · have c_9 : (nI (r9 % 8)) = nI 2 := c_9
      refine lv_tableIn (tgt := 88) (off := 79) hx hb dX5_playTurn_9 (by rw [c_9]; decide) (by rw [c_9]; decide) (by rw [c_9]; decide) (by decide) ?_
      have h9 : r9 % 8 = 2 := nc_eq (by omega) (by decide) c_9
      refine lv_aload_n hx hb dX5_playTurn_88 rfl (lv_at hl 1 rfl) ?_
      refine lv_iload_n hx hb dX5_playTurn_89 rfl (lv_at hl 0 rfl) ?_
      refine lv_bipush (v := (nI 8)) hx hb dX5_playTurn_90 (by decide) ?_
      refine lv_irem hx hb dX5_playTurn_92 (nI_ne0 (by omega) (by omega)) ?_
      refine ti (pk_rem (a := (r9 / 8)) (d := 8) (by omega) (by omega) (by omega)) ?_
      refine lv_iload_n hx hb dX5_playTurn_93 rfl (lv_at hl 0 rfl) ?_
      refine lv_bipush (v := (nI 8)) hx hb dX5_playTurn_94 (by decide) ?_
      refine lv_idiv hx hb dX5_playTurn_96 (nI_ne0 (by omega) (by omega)) ?_
      refine ti (pk_div (a := (r9 / 8)) (d := 8) (by omega) (by omega) (by omega)) ?_
      refine lv_bipush (v := (nI 12)) hx hb dX5_playTurn_97 (by decide) ?_
      refine lv_irem hx hb dX5_playTurn_99 (nI_ne0 (by omega) (by omega)) ?_
      refine ti (pk_rem (a := ((r9 / 8) / 8)) (d := 12) (by omega) (by omega) (by omega)) ?_
      refine lv_iload_n hx hb dX5_playTurn_100 rfl (lv_at hl 0 rfl) ?_
      refine lv_sipush (v := (nI 128)) hx hb dX5_playTurn_101 (by decide) ?_
      refine lv_idiv hx hb dX5_playTurn_104 (nI_ne0 (by omega) (by omega)) ?_
      refine ti (pk_div (a := (r9 / 8)) (d := 128) (by omega) (by omega) (by omega)) ?_
      refine lv_sipush (v := (nI 256)) hx hb dX5_playTurn_105 (by decide) ?_
      refine lv_irem hx hb dX5_playTurn_108 (nI_ne0 (by omega) (by omega)) ?_
      refine ti (pk_rem (a := ((r9 / 8) / 128)) (d := 256) (by omega) (by omega) (by omega)) ?_
      refine lv_iload_n hx hb dX5_playTurn_109 rfl (lv_at hl 0 rfl) ?_
      refine lv_ldc hx hb hown (hts _ wd28_11) dX5_playTurn_110 ?_
      refine ti (show (32768 : Int32) = nI 32768 from by decide) ?_
      refine lv_idiv hx hb dX5_playTurn_112 (nI_ne0 (by omega) (by omega)) ?_
      refine ti (pk_div (a := (r9 / 8)) (d := 32768) (by omega) (by omega) (by omega)) ?_
      refine lv_bipush (v := (nI 6)) hx hb dX5_playTurn_113 (by decide) ?_
      refine lv_irem hx hb dX5_playTurn_115 (nI_ne0 (by omega) (by omega)) ?_
      refine ti (pk_rem (a := ((r9 / 8) / 32768)) (d := 6) (by omega) (by omega) (by omega)) ?_
      refine jn_i (pcj := 131) (ls := ls) (st := [.int (nI (((r9 / 8) / 32768) % 6)), .int (nI (((r9 / 8) / 128) % 256)), .int (nI (((r9 / 8) / 8) % 12)), .int (nI ((r9 / 8) % 8)), .ref (a 0)]) (fun v9 => v9 = (bI (decide (r9 / 8 / 262144 % 2 = 1)))) ?_ (fun jn131 => ?_)
      · intro v9 hv9
        subst hv9
        refine wr_call (wc := [(a 0, .inr (0, [.ref (a 1), .ref (a 4), .ref (a 6), .ref (a 8), .ref (a 9), .int (nI (σ 2)), .int (nI (σ 3)), .int (nI (σ 4)), .int (nI (σ 5)), .int (nI (σ 6)), .int (nI (σ 7))])), (a 1, .inr (2, [.ref (a 2), .ref (a 3), .int (nI (cmk σ))])), aI cy (a 2) 144 (wv σ), aI cy (a 3) 12 (b 1), (a 4, .inr (3, [.int (nI 6), .int (nI 11), .ref (a 5), .int (nI (σ 0))])), aI cy (a 5) 66 (b 2), (a 6, .inr (3, [.int (nI 20), .int (nI 6), .ref (a 7), .int (nI (σ 1))])), aI cy (a 7) 120 (b 3), aI cy (a 8) 8 (mS (pu σ)), aI cy (a 9) 6 (b 5)]) (va_runV (As := [.int (nI ((r9 / 8) % 8)), .int (nI (((r9 / 8) / 8) % 12)), .int (nI (((r9 / 8) / 128) % 256)), .int (nI (((r9 / 8) / 32768) % 6)), .int (bI (decide (r9 / 8 / 262144 % 2 = 1)))]) (rest := []) ⟨hx, hb, hml, hown, hts⟩ (c_X0_tellSighting l g cy  s.heap.size a σ b bd (nI ((r9 / 8) % 8)) (nI (((r9 / 8) / 8) % 12)) (nI (((r9 / 8) / 128) % 256)) (nI (((r9 / 8) / 32768) % 6)) (decide (r9 / 8 / 262144 % 2 = 1)) hwf hbr) ⟨(cB 5 hts wd13_1 wd1_12 wd28_14 rfl rfl (by decide +kernel) ⟨Nat.le_of_ble_eq_true rfl, Nat.le_of_ble_eq_true rfl⟩), hts _ wd12_23, hts _ wd13_0⟩ (pv hK hP hD hS hA hX [0, 1, 2, 3, 4, 5, 6, 7, 8, 9] rfl rfl 0 0 rfl rfl) rfl rfl hl.1 rfl (lv_room (Nat.le_of_ble_eq_true rfl)) dX5_playTurn_131 ⟨Nat.zero_le _, Nat.zero_le _⟩) hP hD hS hA [0, 1, 2, 3, 4, 5, 6, 7, 8, 9] rfl rfl (fun _ => (rfl : ([a 0, a 1, a 2, a 3, a 4, a 5, a 6, a 7, a 8, a 9] : List Nat) = [a 0, a 1, a 2, a 3, a 4, a 5, a 6, a 7, a 8, a 9])) ?_
        rintro b1_131 H locs hbr_131 hP hD hS
        have hP : va_P g vwCl [(a 0, .inr (0, [.ref (a 1), .ref (a 4), .ref (a 6), .ref (a 8), .ref (a 9), .int (nI ((sightR σ (nI ((r9 / 8) % 8)) (nI (((r9 / 8) / 8) % 12)) (nI (((r9 / 8) / 128) % 256)) (nI (((r9 / 8) / 32768) % 6)) (decide (r9 / 8 / 262144 % 2 = 1))) 2)), .int (nI ((sightR σ (nI ((r9 / 8) % 8)) (nI (((r9 / 8) / 8) % 12)) (nI (((r9 / 8) / 128) % 256)) (nI (((r9 / 8) / 32768) % 6)) (decide (r9 / 8 / 262144 % 2 = 1))) 3)), .int (nI ((sightR σ (nI ((r9 / 8) % 8)) (nI (((r9 / 8) / 8) % 12)) (nI (((r9 / 8) / 128) % 256)) (nI (((r9 / 8) / 32768) % 6)) (decide (r9 / 8 / 262144 % 2 = 1))) 4)), .int (nI ((sightR σ (nI ((r9 / 8) % 8)) (nI (((r9 / 8) / 8) % 12)) (nI (((r9 / 8) / 128) % 256)) (nI (((r9 / 8) / 32768) % 6)) (decide (r9 / 8 / 262144 % 2 = 1))) 5)), .int (nI ((sightR σ (nI ((r9 / 8) % 8)) (nI (((r9 / 8) / 8) % 12)) (nI (((r9 / 8) / 128) % 256)) (nI (((r9 / 8) / 32768) % 6)) (decide (r9 / 8 / 262144 % 2 = 1))) 6)), .int (nI ((sightR σ (nI ((r9 / 8) % 8)) (nI (((r9 / 8) / 8) % 12)) (nI (((r9 / 8) / 128) % 256)) (nI (((r9 / 8) / 32768) % 6)) (decide (r9 / 8 / 262144 % 2 = 1))) 7))])), (a 1, .inr (2, [.ref (a 2), .ref (a 3), .int (nI (cmk (sightR σ (nI ((r9 / 8) % 8)) (nI (((r9 / 8) / 8) % 12)) (nI (((r9 / 8) / 128) % 256)) (nI (((r9 / 8) / 32768) % 6)) (decide (r9 / 8 / 262144 % 2 = 1)))))])), aI cy (a 2) 144 (wv (sightR σ (nI ((r9 / 8) % 8)) (nI (((r9 / 8) / 8) % 12)) (nI (((r9 / 8) / 128) % 256)) (nI (((r9 / 8) / 32768) % 6)) (decide (r9 / 8 / 262144 % 2 = 1)))), aI cy (a 3) 12 (b1_131 1), (a 4, .inr (3, [.int (nI 6), .int (nI 11), .ref (a 5), .int (nI ((sightR σ (nI ((r9 / 8) % 8)) (nI (((r9 / 8) / 8) % 12)) (nI (((r9 / 8) / 128) % 256)) (nI (((r9 / 8) / 32768) % 6)) (decide (r9 / 8 / 262144 % 2 = 1))) 0))])), aI cy (a 5) 66 (b1_131 2), (a 6, .inr (3, [.int (nI 20), .int (nI 6), .ref (a 7), .int (nI ((sightR σ (nI ((r9 / 8) % 8)) (nI (((r9 / 8) / 8) % 12)) (nI (((r9 / 8) / 128) % 256)) (nI (((r9 / 8) / 32768) % 6)) (decide (r9 / 8 / 262144 % 2 = 1))) 1))])), aI cy (a 7) 120 (b1_131 3), aI cy (a 8) 8 (mS (pu (sightR σ (nI ((r9 / 8) % 8)) (nI (((r9 / 8) / 8) % 12)) (nI (((r9 / 8) / 128) % 256)) (nI (((r9 / 8) / 32768) % 6)) (decide (r9 / 8 / 262144 % 2 = 1))))), aI cy (a 9) 6 (b1_131 5)] H := hP
        have hD : va_D A [(a 0, .inr (0, [.ref (a 1), .ref (a 4), .ref (a 6), .ref (a 8), .ref (a 9), .int (nI ((sightR σ (nI ((r9 / 8) % 8)) (nI (((r9 / 8) / 8) % 12)) (nI (((r9 / 8) / 128) % 256)) (nI (((r9 / 8) / 32768) % 6)) (decide (r9 / 8 / 262144 % 2 = 1))) 2)), .int (nI ((sightR σ (nI ((r9 / 8) % 8)) (nI (((r9 / 8) / 8) % 12)) (nI (((r9 / 8) / 128) % 256)) (nI (((r9 / 8) / 32768) % 6)) (decide (r9 / 8 / 262144 % 2 = 1))) 3)), .int (nI ((sightR σ (nI ((r9 / 8) % 8)) (nI (((r9 / 8) / 8) % 12)) (nI (((r9 / 8) / 128) % 256)) (nI (((r9 / 8) / 32768) % 6)) (decide (r9 / 8 / 262144 % 2 = 1))) 4)), .int (nI ((sightR σ (nI ((r9 / 8) % 8)) (nI (((r9 / 8) / 8) % 12)) (nI (((r9 / 8) / 128) % 256)) (nI (((r9 / 8) / 32768) % 6)) (decide (r9 / 8 / 262144 % 2 = 1))) 5)), .int (nI ((sightR σ (nI ((r9 / 8) % 8)) (nI (((r9 / 8) / 8) % 12)) (nI (((r9 / 8) / 128) % 256)) (nI (((r9 / 8) / 32768) % 6)) (decide (r9 / 8 / 262144 % 2 = 1))) 6)), .int (nI ((sightR σ (nI ((r9 / 8) % 8)) (nI (((r9 / 8) / 8) % 12)) (nI (((r9 / 8) / 128) % 256)) (nI (((r9 / 8) / 32768) % 6)) (decide (r9 / 8 / 262144 % 2 = 1))) 7))])), (a 1, .inr (2, [.ref (a 2), .ref (a 3), .int (nI (cmk (sightR σ (nI ((r9 / 8) % 8)) (nI (((r9 / 8) / 8) % 12)) (nI (((r9 / 8) / 128) % 256)) (nI (((r9 / 8) / 32768) % 6)) (decide (r9 / 8 / 262144 % 2 = 1)))))])), aI cy (a 2) 144 (wv (sightR σ (nI ((r9 / 8) % 8)) (nI (((r9 / 8) / 8) % 12)) (nI (((r9 / 8) / 128) % 256)) (nI (((r9 / 8) / 32768) % 6)) (decide (r9 / 8 / 262144 % 2 = 1)))), aI cy (a 3) 12 (b1_131 1), (a 4, .inr (3, [.int (nI 6), .int (nI 11), .ref (a 5), .int (nI ((sightR σ (nI ((r9 / 8) % 8)) (nI (((r9 / 8) / 8) % 12)) (nI (((r9 / 8) / 128) % 256)) (nI (((r9 / 8) / 32768) % 6)) (decide (r9 / 8 / 262144 % 2 = 1))) 0))])), aI cy (a 5) 66 (b1_131 2), (a 6, .inr (3, [.int (nI 20), .int (nI 6), .ref (a 7), .int (nI ((sightR σ (nI ((r9 / 8) % 8)) (nI (((r9 / 8) / 8) % 12)) (nI (((r9 / 8) / 128) % 256)) (nI (((r9 / 8) / 32768) % 6)) (decide (r9 / 8 / 262144 % 2 = 1))) 1))])), aI cy (a 7) 120 (b1_131 3), aI cy (a 8) 8 (mS (pu (sightR σ (nI ((r9 / 8) % 8)) (nI (((r9 / 8) / 8) % 12)) (nI (((r9 / 8) / 128) % 256)) (nI (((r9 / 8) / 32768) % 6)) (decide (r9 / 8 / 262144 % 2 = 1))))), aI cy (a 9) 6 (b1_131 5)] := hD
        have hbr_131 : BR (sightR σ (nI ((r9 / 8) % 8)) (nI (((r9 / 8) / 8) % 12)) (nI (((r9 / 8) / 128) % 256)) (nI (((r9 / 8) / 32768) % 6)) (decide (r9 / 8 / 262144 % 2 = 1))) b1_131 := hbr_131
        show W _ _ _ _ _ _ _ _ _ _ _ _ _ _ _ (F0 mX 134 ls [.int (nI (sightA σ (nI ((r9 / 8) % 8)) (nI (((r9 / 8) / 8) % 12)) (nI (((r9 / 8) / 128) % 256)) (nI (((r9 / 8) / 32768) % 6))))])
        have heS : plR r9 σ = sightR σ (nI ((r9 / 8) % 8)) (nI (((r9 / 8) / 8) % 12)) (nI (((r9 / 8) / 128) % 256)) (nI (((r9 / 8) / 32768) % 6)) (decide (r9 / 8 / 262144 % 2 = 1)) := by simp [plR, h9]
        exact wr_i (b1_131, (nI (sightA σ (nI ((r9 / 8) % 8)) (nI (((r9 / 8) / 8) % 12)) (nI (((r9 / 8) / 128) % 256)) (nI (((r9 / 8) / 32768) % 6))))) rfl (by rw [heS]; exact hbr_131) (by rw [heS]; exact hP) hS hx hb hr dX5_playTurn_134 hlk
      · skip
        refine lv_iload_n hx hb dX5_playTurn_116 rfl (lv_at hl 0 rfl) ?_
        refine lv_ldc hx hb hown (hts _ wd28_12) dX5_playTurn_117 ?_
        refine ti (show (262144 : Int32) = nI 262144 from by decide) ?_
        refine lv_idiv hx hb dX5_playTurn_119 (nI_ne0 (by omega) (by omega)) ?_
        refine ti (pk_div (a := (r9 / 8)) (d := 262144) (by omega) (by omega) (by omega)) ?_
        refine lv_iconst (v := (nI 2)) hx hb dX5_playTurn_120 (by decide) ?_
        refine lv_irem hx hb dX5_playTurn_121 (nI_ne0 (by omega) (by omega)) ?_
        refine ti (pk_rem (a := ((r9 / 8) / 262144)) (d := 2) (by omega) (by omega) (by omega)) ?_
        refine lv_iconst (v := (nI 1)) hx hb dX5_playTurn_122 (by decide) ?_
        refine lv_icmp_ne (tgt := 130) hx hb dX5_playTurn_123 (by decide) (fun c_123 => ?_) (fun c_123 => ?_)
        · have c_123 := (nc_ne9 (by omega) (by omega) c_123)
          refine lv_iconst (v := (nI 0)) hx hb dX5_playTurn_130 (by decide) ?_
          exact jn131 _ (by simp [c_123, bI, nI_0, nI_o])
        · have c_123 := (nc_eq9 (by omega) (by omega) c_123)
          refine lv_iconst (v := (nI 1)) hx hb dX5_playTurn_126 (by decide) ?_
          refine lv_goto (tgt := 131) hx hb dX5_playTurn_127 (by decide) ?_
          exact jn131 _ (by simp [c_123, bI, nI_0, nI_o])
    · have c_9 : (nI (r9 % 8)) = nI 3 := c_9
      refine lv_tableIn (tgt := 88) (off := 79) hx hb dX5_playTurn_9 (by rw [c_9]; decide) (by rw [c_9]; decide) (by rw [c_9]; decide) (by decide) ?_
      have h9 : r9 % 8 = 3 := nc_eq (by omega) (by decide) c_9
      refine lv_aload_n hx hb dX5_playTurn_88 rfl (lv_at hl 1 rfl) ?_
      refine lv_iload_n hx hb dX5_playTurn_89 rfl (lv_at hl 0 rfl) ?_
      refine lv_bipush (v := (nI 8)) hx hb dX5_playTurn_90 (by decide) ?_
      refine lv_irem hx hb dX5_playTurn_92 (nI_ne0 (by omega) (by omega)) ?_
      refine ti (pk_rem (a := (r9 / 8)) (d := 8) (by omega) (by omega) (by omega)) ?_
      refine lv_iload_n hx hb dX5_playTurn_93 rfl (lv_at hl 0 rfl) ?_
      refine lv_bipush (v := (nI 8)) hx hb dX5_playTurn_94 (by decide) ?_
      refine lv_idiv hx hb dX5_playTurn_96 (nI_ne0 (by omega) (by omega)) ?_
      refine ti (pk_div (a := (r9 / 8)) (d := 8) (by omega) (by omega) (by omega)) ?_
      refine lv_bipush (v := (nI 12)) hx hb dX5_playTurn_97 (by decide) ?_
      refine lv_irem hx hb dX5_playTurn_99 (nI_ne0 (by omega) (by omega)) ?_
      refine ti (pk_rem (a := ((r9 / 8) / 8)) (d := 12) (by omega) (by omega) (by omega)) ?_
      refine lv_iload_n hx hb dX5_playTurn_100 rfl (lv_at hl 0 rfl) ?_
      refine lv_sipush (v := (nI 128)) hx hb dX5_playTurn_101 (by decide) ?_
      refine lv_idiv hx hb dX5_playTurn_104 (nI_ne0 (by omega) (by omega)) ?_
      refine ti (pk_div (a := (r9 / 8)) (d := 128) (by omega) (by omega) (by omega)) ?_
      refine lv_sipush (v := (nI 256)) hx hb dX5_playTurn_105 (by decide) ?_
      refine lv_irem hx hb dX5_playTurn_108 (nI_ne0 (by omega) (by omega)) ?_
      refine ti (pk_rem (a := ((r9 / 8) / 128)) (d := 256) (by omega) (by omega) (by omega)) ?_
      refine lv_iload_n hx hb dX5_playTurn_109 rfl (lv_at hl 0 rfl) ?_
      refine lv_ldc hx hb hown (hts _ wd28_11) dX5_playTurn_110 ?_
      refine ti (show (32768 : Int32) = nI 32768 from by decide) ?_
      refine lv_idiv hx hb dX5_playTurn_112 (nI_ne0 (by omega) (by omega)) ?_
      refine ti (pk_div (a := (r9 / 8)) (d := 32768) (by omega) (by omega) (by omega)) ?_
      refine lv_bipush (v := (nI 6)) hx hb dX5_playTurn_113 (by decide) ?_
      refine lv_irem hx hb dX5_playTurn_115 (nI_ne0 (by omega) (by omega)) ?_
      refine ti (pk_rem (a := ((r9 / 8) / 32768)) (d := 6) (by omega) (by omega) (by omega)) ?_
      refine jn_i (pcj := 131) (ls := ls) (st := [.int (nI (((r9 / 8) / 32768) % 6)), .int (nI (((r9 / 8) / 128) % 256)), .int (nI (((r9 / 8) / 8) % 12)), .int (nI ((r9 / 8) % 8)), .ref (a 0)]) (fun v9 => v9 = (bI (decide (r9 / 8 / 262144 % 2 = 1)))) ?_ (fun jn131 => ?_)
      · intro v9 hv9
        subst hv9
        refine wr_call (wc := [(a 0, .inr (0, [.ref (a 1), .ref (a 4), .ref (a 6), .ref (a 8), .ref (a 9), .int (nI (σ 2)), .int (nI (σ 3)), .int (nI (σ 4)), .int (nI (σ 5)), .int (nI (σ 6)), .int (nI (σ 7))])), (a 1, .inr (2, [.ref (a 2), .ref (a 3), .int (nI (cmk σ))])), aI cy (a 2) 144 (wv σ), aI cy (a 3) 12 (b 1), (a 4, .inr (3, [.int (nI 6), .int (nI 11), .ref (a 5), .int (nI (σ 0))])), aI cy (a 5) 66 (b 2), (a 6, .inr (3, [.int (nI 20), .int (nI 6), .ref (a 7), .int (nI (σ 1))])), aI cy (a 7) 120 (b 3), aI cy (a 8) 8 (mS (pu σ)), aI cy (a 9) 6 (b 5)]) (va_runV (As := [.int (nI ((r9 / 8) % 8)), .int (nI (((r9 / 8) / 8) % 12)), .int (nI (((r9 / 8) / 128) % 256)), .int (nI (((r9 / 8) / 32768) % 6)), .int (bI (decide (r9 / 8 / 262144 % 2 = 1)))]) (rest := []) ⟨hx, hb, hml, hown, hts⟩ (c_X0_tellSighting l g cy  s.heap.size a σ b bd (nI ((r9 / 8) % 8)) (nI (((r9 / 8) / 8) % 12)) (nI (((r9 / 8) / 128) % 256)) (nI (((r9 / 8) / 32768) % 6)) (decide (r9 / 8 / 262144 % 2 = 1)) hwf hbr) ⟨(cB 5 hts wd13_1 wd1_12 wd28_14 rfl rfl (by decide +kernel) ⟨Nat.le_of_ble_eq_true rfl, Nat.le_of_ble_eq_true rfl⟩), hts _ wd12_23, hts _ wd13_0⟩ (pv hK hP hD hS hA hX [0, 1, 2, 3, 4, 5, 6, 7, 8, 9] rfl rfl 0 0 rfl rfl) rfl rfl hl.1 rfl (lv_room (Nat.le_of_ble_eq_true rfl)) dX5_playTurn_131 ⟨Nat.zero_le _, Nat.zero_le _⟩) hP hD hS hA [0, 1, 2, 3, 4, 5, 6, 7, 8, 9] rfl rfl (fun _ => (rfl : ([a 0, a 1, a 2, a 3, a 4, a 5, a 6, a 7, a 8, a 9] : List Nat) = [a 0, a 1, a 2, a 3, a 4, a 5, a 6, a 7, a 8, a 9])) ?_
        rintro b1_131 H locs hbr_131 hP hD hS
        have hP : va_P g vwCl [(a 0, .inr (0, [.ref (a 1), .ref (a 4), .ref (a 6), .ref (a 8), .ref (a 9), .int (nI ((sightR σ (nI ((r9 / 8) % 8)) (nI (((r9 / 8) / 8) % 12)) (nI (((r9 / 8) / 128) % 256)) (nI (((r9 / 8) / 32768) % 6)) (decide (r9 / 8 / 262144 % 2 = 1))) 2)), .int (nI ((sightR σ (nI ((r9 / 8) % 8)) (nI (((r9 / 8) / 8) % 12)) (nI (((r9 / 8) / 128) % 256)) (nI (((r9 / 8) / 32768) % 6)) (decide (r9 / 8 / 262144 % 2 = 1))) 3)), .int (nI ((sightR σ (nI ((r9 / 8) % 8)) (nI (((r9 / 8) / 8) % 12)) (nI (((r9 / 8) / 128) % 256)) (nI (((r9 / 8) / 32768) % 6)) (decide (r9 / 8 / 262144 % 2 = 1))) 4)), .int (nI ((sightR σ (nI ((r9 / 8) % 8)) (nI (((r9 / 8) / 8) % 12)) (nI (((r9 / 8) / 128) % 256)) (nI (((r9 / 8) / 32768) % 6)) (decide (r9 / 8 / 262144 % 2 = 1))) 5)), .int (nI ((sightR σ (nI ((r9 / 8) % 8)) (nI (((r9 / 8) / 8) % 12)) (nI (((r9 / 8) / 128) % 256)) (nI (((r9 / 8) / 32768) % 6)) (decide (r9 / 8 / 262144 % 2 = 1))) 6)), .int (nI ((sightR σ (nI ((r9 / 8) % 8)) (nI (((r9 / 8) / 8) % 12)) (nI (((r9 / 8) / 128) % 256)) (nI (((r9 / 8) / 32768) % 6)) (decide (r9 / 8 / 262144 % 2 = 1))) 7))])), (a 1, .inr (2, [.ref (a 2), .ref (a 3), .int (nI (cmk (sightR σ (nI ((r9 / 8) % 8)) (nI (((r9 / 8) / 8) % 12)) (nI (((r9 / 8) / 128) % 256)) (nI (((r9 / 8) / 32768) % 6)) (decide (r9 / 8 / 262144 % 2 = 1)))))])), aI cy (a 2) 144 (wv (sightR σ (nI ((r9 / 8) % 8)) (nI (((r9 / 8) / 8) % 12)) (nI (((r9 / 8) / 128) % 256)) (nI (((r9 / 8) / 32768) % 6)) (decide (r9 / 8 / 262144 % 2 = 1)))), aI cy (a 3) 12 (b1_131 1), (a 4, .inr (3, [.int (nI 6), .int (nI 11), .ref (a 5), .int (nI ((sightR σ (nI ((r9 / 8) % 8)) (nI (((r9 / 8) / 8) % 12)) (nI (((r9 / 8) / 128) % 256)) (nI (((r9 / 8) / 32768) % 6)) (decide (r9 / 8 / 262144 % 2 = 1))) 0))])), aI cy (a 5) 66 (b1_131 2), (a 6, .inr (3, [.int (nI 20), .int (nI 6), .ref (a 7), .int (nI ((sightR σ (nI ((r9 / 8) % 8)) (nI (((r9 / 8) / 8) % 12)) (nI (((r9 / 8) / 128) % 256)) (nI (((r9 / 8) / 32768) % 6)) (decide (r9 / 8 / 262144 % 2 = 1))) 1))])), aI cy (a 7) 120 (b1_131 3), aI cy (a 8) 8 (mS (pu (sightR σ (nI ((r9 / 8) % 8)) (nI (((r9 / 8) / 8) % 12)) (nI (((r9 / 8) / 128) % 256)) (nI (((r9 / 8) / 32768) % 6)) (decide (r9 / 8 / 262144 % 2 = 1))))), aI cy (a 9) 6 (b1_131 5)] H := hP
        have hD : va_D A [(a 0, .inr (0, [.ref (a 1), .ref (a 4), .ref (a 6), .ref (a 8), .ref (a 9), .int (nI ((sightR σ (nI ((r9 / 8) % 8)) (nI (((r9 / 8) / 8) % 12)) (nI (((r9 / 8) / 128) % 256)) (nI (((r9 / 8) / 32768) % 6)) (decide (r9 / 8 / 262144 % 2 = 1))) 2)), .int (nI ((sightR σ (nI ((r9 / 8) % 8)) (nI (((r9 / 8) / 8) % 12)) (nI (((r9 / 8) / 128) % 256)) (nI (((r9 / 8) / 32768) % 6)) (decide (r9 / 8 / 262144 % 2 = 1))) 3)), .int (nI ((sightR σ (nI ((r9 / 8) % 8)) (nI (((r9 / 8) / 8) % 12)) (nI (((r9 / 8) / 128) % 256)) (nI (((r9 / 8) / 32768) % 6)) (decide (r9 / 8 / 262144 % 2 = 1))) 4)), .int (nI ((sightR σ (nI ((r9 / 8) % 8)) (nI (((r9 / 8) / 8) % 12)) (nI (((r9 / 8) / 128) % 256)) (nI (((r9 / 8) / 32768) % 6)) (decide (r9 / 8 / 262144 % 2 = 1))) 5)), .int (nI ((sightR σ (nI ((r9 / 8) % 8)) (nI (((r9 / 8) / 8) % 12)) (nI (((r9 / 8) / 128) % 256)) (nI (((r9 / 8) / 32768) % 6)) (decide (r9 / 8 / 262144 % 2 = 1))) 6)), .int (nI ((sightR σ (nI ((r9 / 8) % 8)) (nI (((r9 / 8) / 8) % 12)) (nI (((r9 / 8) / 128) % 256)) (nI (((r9 / 8) / 32768) % 6)) (decide (r9 / 8 / 262144 % 2 = 1))) 7))])), (a 1, .inr (2, [.ref (a 2), .ref (a 3), .int (nI (cmk (sightR σ (nI ((r9 / 8) % 8)) (nI (((r9 / 8) / 8) % 12)) (nI (((r9 / 8) / 128) % 256)) (nI (((r9 / 8) / 32768) % 6)) (decide (r9 / 8 / 262144 % 2 = 1)))))])), aI cy (a 2) 144 (wv (sightR σ (nI ((r9 / 8) % 8)) (nI (((r9 / 8) / 8) % 12)) (nI (((r9 / 8) / 128) % 256)) (nI (((r9 / 8) / 32768) % 6)) (decide (r9 / 8 / 262144 % 2 = 1)))), aI cy (a 3) 12 (b1_131 1), (a 4, .inr (3, [.int (nI 6), .int (nI 11), .ref (a 5), .int (nI ((sightR σ (nI ((r9 / 8) % 8)) (nI (((r9 / 8) / 8) % 12)) (nI (((r9 / 8) / 128) % 256)) (nI (((r9 / 8) / 32768) % 6)) (decide (r9 / 8 / 262144 % 2 = 1))) 0))])), aI cy (a 5) 66 (b1_131 2), (a 6, .inr (3, [.int (nI 20), .int (nI 6), .ref (a 7), .int (nI ((sightR σ (nI ((r9 / 8) % 8)) (nI (((r9 / 8) / 8) % 12)) (nI (((r9 / 8) / 128) % 256)) (nI (((r9 / 8) / 32768) % 6)) (decide (r9 / 8 / 262144 % 2 = 1))) 1))])), aI cy (a 7) 120 (b1_131 3), aI cy (a 8) 8 (mS (pu (sightR σ (nI ((r9 / 8) % 8)) (nI (((r9 / 8) / 8) % 12)) (nI (((r9 / 8) / 128) % 256)) (nI (((r9 / 8) / 32768) % 6)) (decide (r9 / 8 / 262144 % 2 = 1))))), aI cy (a 9) 6 (b1_131 5)] := hD
        have hbr_131 : BR (sightR σ (nI ((r9 / 8) % 8)) (nI (((r9 / 8) / 8) % 12)) (nI (((r9 / 8) / 128) % 256)) (nI (((r9 / 8) / 32768) % 6)) (decide (r9 / 8 / 262144 % 2 = 1))) b1_131 := hbr_131
        show W _ _ _ _ _ _ _ _ _ _ _ _ _ _ _ (F0 mX 134 ls [.int (nI (sightA σ (nI ((r9 / 8) % 8)) (nI (((r9 / 8) / 8) % 12)) (nI (((r9 / 8) / 128) % 256)) (nI (((r9 / 8) / 32768) % 6))))])
        have heS : plR r9 σ = sightR σ (nI ((r9 / 8) % 8)) (nI (((r9 / 8) / 8) % 12)) (nI (((r9 / 8) / 128) % 256)) (nI (((r9 / 8) / 32768) % 6)) (decide (r9 / 8 / 262144 % 2 = 1)) := by simp [plR, h9]
        exact wr_i (b1_131, (nI (sightA σ (nI ((r9 / 8) % 8)) (nI (((r9 / 8) / 8) % 12)) (nI (((r9 / 8) / 128) % 256)) (nI (((r9 / 8) / 32768) % 6))))) rfl (by rw [heS]; exact hbr_131) (by rw [heS]; exact hP) hS hx hb hr dX5_playTurn_134 hlk
      · skip
        refine lv_iload_n hx hb dX5_playTurn_116 rfl (lv_at hl 0 rfl) ?_
        refine lv_ldc hx hb hown (hts _ wd28_12) dX5_playTurn_117 ?_
        refine ti (show (262144 : Int32) = nI 262144 from by decide) ?_
        refine lv_idiv hx hb dX5_playTurn_119 (nI_ne0 (by omega) (by omega)) ?_
        refine ti (pk_div (a := (r9 / 8)) (d := 262144) (by omega) (by omega) (by omega)) ?_
        refine lv_iconst (v := (nI 2)) hx hb dX5_playTurn_120 (by decide) ?_
        refine lv_irem hx hb dX5_playTurn_121 (nI_ne0 (by omega) (by omega)) ?_
        refine ti (pk_rem (a := ((r9 / 8) / 262144)) (d := 2) (by omega) (by omega) (by omega)) ?_
        refine lv_iconst (v := (nI 1)) hx hb dX5_playTurn_122 (by decide) ?_
        refine lv_icmp_ne (tgt := 130) hx hb dX5_playTurn_123 (by decide) (fun c_123 => ?_) (fun c_123 => ?_)
        · have c_123 := (nc_ne9 (by omega) (by omega) c_123)
          refine lv_iconst (v := (nI 0)) hx hb dX5_playTurn_130 (by decide) ?_
          exact jn131 _ (by simp [c_123, bI, nI_0, nI_o])
        · have c_123 := (nc_eq9 (by omega) (by omega) c_123)
          refine lv_iconst (v := (nI 1)) hx hb dX5_playTurn_126 (by decide) ?_
          refine lv_goto (tgt := 131) hx hb dX5_playTurn_127 (by decide) ?_
          exact jn131 _ (by simp [c_123, bI, nI_0, nI_o])
    · have c_9 : (nI (r9 % 8)) = nI 4 := c_9
      refine lv_tableIn (tgt := 135) (off := 126) hx hb dX5_playTurn_9 (by rw [c_9]; decide) (by rw [c_9]; decide) (by rw [c_9]; decide) (by decide) ?_
      have h9 : r9 % 8 = 4 := nc_eq (by omega) (by decide) c_9
      refine lv_aload_n hx hb dX5_playTurn_135 rfl (lv_at hl 1 rfl) ?_
      refine lv_iload_n hx hb dX5_playTurn_136 rfl (lv_at hl 0 rfl) ?_
      refine lv_bipush (v := (nI 6)) hx hb dX5_playTurn_137 (by decide) ?_
      refine lv_irem hx hb dX5_playTurn_139 (nI_ne0 (by omega) (by omega)) ?_
      refine ti (pk_rem (a := (r9 / 8)) (d := 6) (by omega) (by omega) (by omega)) ?_
      refine lv_iload_n hx hb dX5_playTurn_140 rfl (lv_at hl 0 rfl) ?_
      refine lv_bipush (v := (nI 8)) hx hb dX5_playTurn_141 (by decide) ?_
      refine lv_idiv hx hb dX5_playTurn_143 (nI_ne0 (by omega) (by omega)) ?_
      refine ti (pk_div (a := (r9 / 8)) (d := 8) (by omega) (by omega) (by omega)) ?_
      refine lv_bipush (v := (nI 8)) hx hb dX5_playTurn_144 (by decide) ?_
      refine lv_irem hx hb dX5_playTurn_146 (nI_ne0 (by omega) (by omega)) ?_
      refine ti (pk_rem (a := ((r9 / 8) / 8)) (d := 8) (by omega) (by omega) (by omega)) ?_
      refine lv_iload_n hx hb dX5_playTurn_147 rfl (lv_at hl 0 rfl) ?_
      refine lv_bipush (v := (nI 64)) hx hb dX5_playTurn_148 (by decide) ?_
      refine lv_idiv hx hb dX5_playTurn_150 (nI_ne0 (by omega) (by omega)) ?_
      refine ti (pk_div (a := (r9 / 8)) (d := 64) (by omega) (by omega) (by omega)) ?_
      refine lv_bipush (v := (nI 12)) hx hb dX5_playTurn_151 (by decide) ?_
      refine lv_irem hx hb dX5_playTurn_153 (nI_ne0 (by omega) (by omega)) ?_
      refine ti (pk_rem (a := ((r9 / 8) / 64)) (d := 12) (by omega) (by omega) (by omega)) ?_
      refine wr_call (wc := [(a 0, .inr (0, [.ref (a 1), .ref (a 4), .ref (a 6), .ref (a 8), .ref (a 9), .int (nI (σ 2)), .int (nI (σ 3)), .int (nI (σ 4)), .int (nI (σ 5)), .int (nI (σ 6)), .int (nI (σ 7))])), (a 1, .inr (2, [.ref (a 2), .ref (a 3), .int (nI (cmk σ))])), aI cy (a 2) 144 (wv σ), aI cy (a 3) 12 (b 1), (a 4, .inr (3, [.int (nI 6), .int (nI 11), .ref (a 5), .int (nI (σ 0))])), aI cy (a 5) 66 (b 2), (a 6, .inr (3, [.int (nI 20), .int (nI 6), .ref (a 7), .int (nI (σ 1))])), aI cy (a 7) 120 (b 3), aI cy (a 8) 8 (mS (pu σ)), aI cy (a 9) 6 (b 5)]) (va_runV (As := [.int (nI ((r9 / 8) % 6)), .int (nI (((r9 / 8) / 8) % 8)), .int (nI (((r9 / 8) / 64) % 12))]) (rest := []) ⟨hx, hb, hml, hown, hts⟩ (c_X0_findDog l g cy  s.heap.size a σ b bd (nI ((r9 / 8) % 6)) (nI (((r9 / 8) / 8) % 8)) (nI (((r9 / 8) / 64) % 12)) hwf hbr) ⟨(cB 3 hts wd14_18 wd1_12 wd28_15 rfl rfl (by decide +kernel) ⟨Nat.le_of_ble_eq_true rfl, Nat.le_of_ble_eq_true rfl⟩), hts _ wd14_16, hts _ wd14_17⟩ (pv hK hP hD hS hA hX [0, 1, 2, 3, 4, 5, 6, 7, 8, 9] rfl rfl 0 0 rfl rfl) rfl rfl hl.1 rfl (lv_room (Nat.le_of_ble_eq_true rfl)) dX5_playTurn_154 ⟨Nat.zero_le _, Nat.zero_le _⟩) hP hD hS hA [0, 1, 2, 3, 4, 5, 6, 7, 8, 9] rfl rfl (fun _ => (rfl : ([a 0, a 1, a 2, a 3, a 4, a 5, a 6, a 7, a 8, a 9] : List Nat) = [a 0, a 1, a 2, a 3, a 4, a 5, a 6, a 7, a 8, a 9])) ?_
      rintro b1_154 H locs hbr_154 hP hD hS
      have hP : va_P g vwCl [(a 0, .inr (0, [.ref (a 1), .ref (a 4), .ref (a 6), .ref (a 8), .ref (a 9), .int (nI ((findR σ (nI ((r9 / 8) % 6)) (nI (((r9 / 8) / 8) % 8)) (nI (((r9 / 8) / 64) % 12))) 2)), .int (nI ((findR σ (nI ((r9 / 8) % 6)) (nI (((r9 / 8) / 8) % 8)) (nI (((r9 / 8) / 64) % 12))) 3)), .int (nI ((findR σ (nI ((r9 / 8) % 6)) (nI (((r9 / 8) / 8) % 8)) (nI (((r9 / 8) / 64) % 12))) 4)), .int (nI ((findR σ (nI ((r9 / 8) % 6)) (nI (((r9 / 8) / 8) % 8)) (nI (((r9 / 8) / 64) % 12))) 5)), .int (nI ((findR σ (nI ((r9 / 8) % 6)) (nI (((r9 / 8) / 8) % 8)) (nI (((r9 / 8) / 64) % 12))) 6)), .int (nI ((findR σ (nI ((r9 / 8) % 6)) (nI (((r9 / 8) / 8) % 8)) (nI (((r9 / 8) / 64) % 12))) 7))])), (a 1, .inr (2, [.ref (a 2), .ref (a 3), .int (nI (cmk (findR σ (nI ((r9 / 8) % 6)) (nI (((r9 / 8) / 8) % 8)) (nI (((r9 / 8) / 64) % 12)))))])), aI cy (a 2) 144 (wv (findR σ (nI ((r9 / 8) % 6)) (nI (((r9 / 8) / 8) % 8)) (nI (((r9 / 8) / 64) % 12)))), aI cy (a 3) 12 (b1_154 1), (a 4, .inr (3, [.int (nI 6), .int (nI 11), .ref (a 5), .int (nI ((findR σ (nI ((r9 / 8) % 6)) (nI (((r9 / 8) / 8) % 8)) (nI (((r9 / 8) / 64) % 12))) 0))])), aI cy (a 5) 66 (b1_154 2), (a 6, .inr (3, [.int (nI 20), .int (nI 6), .ref (a 7), .int (nI ((findR σ (nI ((r9 / 8) % 6)) (nI (((r9 / 8) / 8) % 8)) (nI (((r9 / 8) / 64) % 12))) 1))])), aI cy (a 7) 120 (b1_154 3), aI cy (a 8) 8 (mS (pu (findR σ (nI ((r9 / 8) % 6)) (nI (((r9 / 8) / 8) % 8)) (nI (((r9 / 8) / 64) % 12))))), aI cy (a 9) 6 (b1_154 5)] H := hP
      have hD : va_D A [(a 0, .inr (0, [.ref (a 1), .ref (a 4), .ref (a 6), .ref (a 8), .ref (a 9), .int (nI ((findR σ (nI ((r9 / 8) % 6)) (nI (((r9 / 8) / 8) % 8)) (nI (((r9 / 8) / 64) % 12))) 2)), .int (nI ((findR σ (nI ((r9 / 8) % 6)) (nI (((r9 / 8) / 8) % 8)) (nI (((r9 / 8) / 64) % 12))) 3)), .int (nI ((findR σ (nI ((r9 / 8) % 6)) (nI (((r9 / 8) / 8) % 8)) (nI (((r9 / 8) / 64) % 12))) 4)), .int (nI ((findR σ (nI ((r9 / 8) % 6)) (nI (((r9 / 8) / 8) % 8)) (nI (((r9 / 8) / 64) % 12))) 5)), .int (nI ((findR σ (nI ((r9 / 8) % 6)) (nI (((r9 / 8) / 8) % 8)) (nI (((r9 / 8) / 64) % 12))) 6)), .int (nI ((findR σ (nI ((r9 / 8) % 6)) (nI (((r9 / 8) / 8) % 8)) (nI (((r9 / 8) / 64) % 12))) 7))])), (a 1, .inr (2, [.ref (a 2), .ref (a 3), .int (nI (cmk (findR σ (nI ((r9 / 8) % 6)) (nI (((r9 / 8) / 8) % 8)) (nI (((r9 / 8) / 64) % 12)))))])), aI cy (a 2) 144 (wv (findR σ (nI ((r9 / 8) % 6)) (nI (((r9 / 8) / 8) % 8)) (nI (((r9 / 8) / 64) % 12)))), aI cy (a 3) 12 (b1_154 1), (a 4, .inr (3, [.int (nI 6), .int (nI 11), .ref (a 5), .int (nI ((findR σ (nI ((r9 / 8) % 6)) (nI (((r9 / 8) / 8) % 8)) (nI (((r9 / 8) / 64) % 12))) 0))])), aI cy (a 5) 66 (b1_154 2), (a 6, .inr (3, [.int (nI 20), .int (nI 6), .ref (a 7), .int (nI ((findR σ (nI ((r9 / 8) % 6)) (nI (((r9 / 8) / 8) % 8)) (nI (((r9 / 8) / 64) % 12))) 1))])), aI cy (a 7) 120 (b1_154 3), aI cy (a 8) 8 (mS (pu (findR σ (nI ((r9 / 8) % 6)) (nI (((r9 / 8) / 8) % 8)) (nI (((r9 / 8) / 64) % 12))))), aI cy (a 9) 6 (b1_154 5)] := hD
      have hbr_154 : BR (findR σ (nI ((r9 / 8) % 6)) (nI (((r9 / 8) / 8) % 8)) (nI (((r9 / 8) / 64) % 12))) b1_154 := hbr_154
      show W _ _ _ _ _ _ _ _ _ _ _ _ _ _ _ (F0 mX 157 ls [.int (nI (findA σ (nI ((r9 / 8) % 6)) (nI (((r9 / 8) / 8) % 8)) (nI (((r9 / 8) / 64) % 12))))])
      have heS : plR r9 σ = findR σ (nI ((r9 / 8) % 6)) (nI (((r9 / 8) / 8) % 8)) (nI (((r9 / 8) / 64) % 12)) := by simp [plR, h9]
      exact wr_i (b1_154, (nI (findA σ (nI ((r9 / 8) % 6)) (nI (((r9 / 8) / 8) % 8)) (nI (((r9 / 8) / 64) % 12))))) rfl (by rw [heS]; exact hbr_154) (by rw [heS]; exact hP) hS hx hb hr dX5_playTurn_157 hlk
    · have c_9 : (nI (r9 % 8)) = nI 5 := c_9
      refine lv_tableIn (tgt := 158) (off := 149) hx hb dX5_playTurn_9 (by rw [c_9]; decide) (by rw [c_9]; decide) (by rw [c_9]; decide) (by decide) ?_
      have h9 : r9 % 8 = 5 := nc_eq (by omega) (by decide) c_9
      refine lv_aload_n hx hb dX5_playTurn_158 rfl (lv_at hl 1 rfl) ?_
      refine lv_iload_n hx hb dX5_playTurn_159 rfl (lv_at hl 0 rfl) ?_
      refine lv_bipush (v := (nI 12)) hx hb dX5_playTurn_160 (by decide) ?_
      refine lv_irem hx hb dX5_playTurn_162 (nI_ne0 (by omega) (by omega)) ?_
      refine ti (pk_rem (a := (r9 / 8)) (d := 12) (by omega) (by omega) (by omega)) ?_
      refine lv_iload_n hx hb dX5_playTurn_163 rfl (lv_at hl 0 rfl) ?_
      refine lv_bipush (v := (nI 12)) hx hb dX5_playTurn_164 (by decide) ?_
      refine lv_irem hx hb dX5_playTurn_166 (nI_ne0 (by omega) (by omega)) ?_
      refine ti (pk_rem (a := (r9 / 8)) (d := 12) (by omega) (by omega) (by omega)) ?_
      refine jn_i (pcj := 181) (ls := ls) (st := [.int (nI ((r9 / 8) % 12)), .int (nI ((r9 / 8) % 12)), .ref (a 0)]) (fun v9 => v9 = (nI (if r9 / 8 / 16 % 2 = 0 then 1 else 4))) ?_ (fun jn181 => ?_)
      · intro v9 hv9
        subst hv9
        refine lv_iadd hx hb dX5_playTurn_181 ?_
        refine ti (nI_add ((r9 / 8) % 12) (if r9 / 8 / 16 % 2 = 0 then 1 else 4)) ?_
        refine jn_i (pcj := 197) (ls := ls) (st := [.int (nI (((r9 / 8) % 12) + (if r9 / 8 / 16 % 2 = 0 then 1 else 4))), .int (nI ((r9 / 8) % 12)), .ref (a 0)]) (fun v9 => v9 = (bI (decide (r9 / 8 / 64 % 2 = 1)))) ?_ (fun jn197 => ?_)
        · intro v9 hv9
          subst hv9
          refine wr_call (wc := [(a 0, .inr (0, [.ref (a 1), .ref (a 4), .ref (a 6), .ref (a 8), .ref (a 9), .int (nI (σ 2)), .int (nI (σ 3)), .int (nI (σ 4)), .int (nI (σ 5)), .int (nI (σ 6)), .int (nI (σ 7))])), (a 1, .inr (2, [.ref (a 2), .ref (a 3), .int (nI (cmk σ))])), aI cy (a 2) 144 (wv σ), aI cy (a 3) 12 (b 1), (a 4, .inr (3, [.int (nI 6), .int (nI 11), .ref (a 5), .int (nI (σ 0))])), aI cy (a 5) 66 (b 2), (a 6, .inr (3, [.int (nI 20), .int (nI 6), .ref (a 7), .int (nI (σ 1))])), aI cy (a 7) 120 (b 3), aI cy (a 8) 8 (mS (pu σ)), aI cy (a 9) 6 (b 5)]) (va_runV (As := [.int (nI ((r9 / 8) % 12)), .int (nI (((r9 / 8) % 12) + (if r9 / 8 / 16 % 2 = 0 then 1 else 4))), .int (bI (decide (r9 / 8 / 64 % 2 = 1)))]) (rest := []) ⟨hx, hb, hml, hown, hts⟩ (c_X0_closeStreet l g cy  s.heap.size a σ b bd (nI ((r9 / 8) % 12)) (nI (((r9 / 8) % 12) + (if r9 / 8 / 16 % 2 = 0 then 1 else 4))) (decide (r9 / 8 / 64 % 2 = 1)) hwf hbr) ⟨(cB 3 hts wd17_1 wd1_12 wd28_16 rfl rfl (by decide +kernel) ⟨Nat.le_of_ble_eq_true rfl, Nat.le_of_ble_eq_true rfl⟩), hts _ wd16_23, hts _ wd17_0⟩ (pv hK hP hD hS hA hX [0, 1, 2, 3, 4, 5, 6, 7, 8, 9] rfl rfl 0 0 rfl rfl) rfl rfl hl.1 rfl (lv_room (Nat.le_of_ble_eq_true rfl)) dX5_playTurn_197 ⟨Nat.zero_le _, Nat.zero_le _⟩) hP hD hS hA [0, 1, 2, 3, 4, 5, 6, 7, 8, 9] rfl rfl (fun _ => (rfl : ([a 0, a 1, a 2, a 3, a 4, a 5, a 6, a 7, a 8, a 9] : List Nat) = [a 0, a 1, a 2, a 3, a 4, a 5, a 6, a 7, a 8, a 9])) ?_
          rintro b1_197 H locs hbr_197 hP hD hS
          have hP : va_P g vwCl [(a 0, .inr (0, [.ref (a 1), .ref (a 4), .ref (a 6), .ref (a 8), .ref (a 9), .int (nI ((closeR σ (nI ((r9 / 8) % 12)) (nI (((r9 / 8) % 12) + (if r9 / 8 / 16 % 2 = 0 then 1 else 4))) (decide (r9 / 8 / 64 % 2 = 1))) 2)), .int (nI ((closeR σ (nI ((r9 / 8) % 12)) (nI (((r9 / 8) % 12) + (if r9 / 8 / 16 % 2 = 0 then 1 else 4))) (decide (r9 / 8 / 64 % 2 = 1))) 3)), .int (nI ((closeR σ (nI ((r9 / 8) % 12)) (nI (((r9 / 8) % 12) + (if r9 / 8 / 16 % 2 = 0 then 1 else 4))) (decide (r9 / 8 / 64 % 2 = 1))) 4)), .int (nI ((closeR σ (nI ((r9 / 8) % 12)) (nI (((r9 / 8) % 12) + (if r9 / 8 / 16 % 2 = 0 then 1 else 4))) (decide (r9 / 8 / 64 % 2 = 1))) 5)), .int (nI ((closeR σ (nI ((r9 / 8) % 12)) (nI (((r9 / 8) % 12) + (if r9 / 8 / 16 % 2 = 0 then 1 else 4))) (decide (r9 / 8 / 64 % 2 = 1))) 6)), .int (nI ((closeR σ (nI ((r9 / 8) % 12)) (nI (((r9 / 8) % 12) + (if r9 / 8 / 16 % 2 = 0 then 1 else 4))) (decide (r9 / 8 / 64 % 2 = 1))) 7))])), (a 1, .inr (2, [.ref (a 2), .ref (a 3), .int (nI (cmk (closeR σ (nI ((r9 / 8) % 12)) (nI (((r9 / 8) % 12) + (if r9 / 8 / 16 % 2 = 0 then 1 else 4))) (decide (r9 / 8 / 64 % 2 = 1)))))])), aI cy (a 2) 144 (wv (closeR σ (nI ((r9 / 8) % 12)) (nI (((r9 / 8) % 12) + (if r9 / 8 / 16 % 2 = 0 then 1 else 4))) (decide (r9 / 8 / 64 % 2 = 1)))), aI cy (a 3) 12 (b1_197 1), (a 4, .inr (3, [.int (nI 6), .int (nI 11), .ref (a 5), .int (nI ((closeR σ (nI ((r9 / 8) % 12)) (nI (((r9 / 8) % 12) + (if r9 / 8 / 16 % 2 = 0 then 1 else 4))) (decide (r9 / 8 / 64 % 2 = 1))) 0))])), aI cy (a 5) 66 (b1_197 2), (a 6, .inr (3, [.int (nI 20), .int (nI 6), .ref (a 7), .int (nI ((closeR σ (nI ((r9 / 8) % 12)) (nI (((r9 / 8) % 12) + (if r9 / 8 / 16 % 2 = 0 then 1 else 4))) (decide (r9 / 8 / 64 % 2 = 1))) 1))])), aI cy (a 7) 120 (b1_197 3), aI cy (a 8) 8 (mS (pu (closeR σ (nI ((r9 / 8) % 12)) (nI (((r9 / 8) % 12) + (if r9 / 8 / 16 % 2 = 0 then 1 else 4))) (decide (r9 / 8 / 64 % 2 = 1))))), aI cy (a 9) 6 (b1_197 5)] H := hP
          have hD : va_D A [(a 0, .inr (0, [.ref (a 1), .ref (a 4), .ref (a 6), .ref (a 8), .ref (a 9), .int (nI ((closeR σ (nI ((r9 / 8) % 12)) (nI (((r9 / 8) % 12) + (if r9 / 8 / 16 % 2 = 0 then 1 else 4))) (decide (r9 / 8 / 64 % 2 = 1))) 2)), .int (nI ((closeR σ (nI ((r9 / 8) % 12)) (nI (((r9 / 8) % 12) + (if r9 / 8 / 16 % 2 = 0 then 1 else 4))) (decide (r9 / 8 / 64 % 2 = 1))) 3)), .int (nI ((closeR σ (nI ((r9 / 8) % 12)) (nI (((r9 / 8) % 12) + (if r9 / 8 / 16 % 2 = 0 then 1 else 4))) (decide (r9 / 8 / 64 % 2 = 1))) 4)), .int (nI ((closeR σ (nI ((r9 / 8) % 12)) (nI (((r9 / 8) % 12) + (if r9 / 8 / 16 % 2 = 0 then 1 else 4))) (decide (r9 / 8 / 64 % 2 = 1))) 5)), .int (nI ((closeR σ (nI ((r9 / 8) % 12)) (nI (((r9 / 8) % 12) + (if r9 / 8 / 16 % 2 = 0 then 1 else 4))) (decide (r9 / 8 / 64 % 2 = 1))) 6)), .int (nI ((closeR σ (nI ((r9 / 8) % 12)) (nI (((r9 / 8) % 12) + (if r9 / 8 / 16 % 2 = 0 then 1 else 4))) (decide (r9 / 8 / 64 % 2 = 1))) 7))])), (a 1, .inr (2, [.ref (a 2), .ref (a 3), .int (nI (cmk (closeR σ (nI ((r9 / 8) % 12)) (nI (((r9 / 8) % 12) + (if r9 / 8 / 16 % 2 = 0 then 1 else 4))) (decide (r9 / 8 / 64 % 2 = 1)))))])), aI cy (a 2) 144 (wv (closeR σ (nI ((r9 / 8) % 12)) (nI (((r9 / 8) % 12) + (if r9 / 8 / 16 % 2 = 0 then 1 else 4))) (decide (r9 / 8 / 64 % 2 = 1)))), aI cy (a 3) 12 (b1_197 1), (a 4, .inr (3, [.int (nI 6), .int (nI 11), .ref (a 5), .int (nI ((closeR σ (nI ((r9 / 8) % 12)) (nI (((r9 / 8) % 12) + (if r9 / 8 / 16 % 2 = 0 then 1 else 4))) (decide (r9 / 8 / 64 % 2 = 1))) 0))])), aI cy (a 5) 66 (b1_197 2), (a 6, .inr (3, [.int (nI 20), .int (nI 6), .ref (a 7), .int (nI ((closeR σ (nI ((r9 / 8) % 12)) (nI (((r9 / 8) % 12) + (if r9 / 8 / 16 % 2 = 0 then 1 else 4))) (decide (r9 / 8 / 64 % 2 = 1))) 1))])), aI cy (a 7) 120 (b1_197 3), aI cy (a 8) 8 (mS (pu (closeR σ (nI ((r9 / 8) % 12)) (nI (((r9 / 8) % 12) + (if r9 / 8 / 16 % 2 = 0 then 1 else 4))) (decide (r9 / 8 / 64 % 2 = 1))))), aI cy (a 9) 6 (b1_197 5)] := hD
          have hbr_197 : BR (closeR σ (nI ((r9 / 8) % 12)) (nI (((r9 / 8) % 12) + (if r9 / 8 / 16 % 2 = 0 then 1 else 4))) (decide (r9 / 8 / 64 % 2 = 1))) b1_197 := hbr_197
          show W _ _ _ _ _ _ _ _ _ _ _ _ _ _ _ (F0 mX 200 ls [.int (nI (closeA σ (nI ((r9 / 8) % 12)) (nI (((r9 / 8) % 12) + (if r9 / 8 / 16 % 2 = 0 then 1 else 4))) (decide (r9 / 8 / 64 % 2 = 1))))])
          have heS : plR r9 σ = closeR σ (nI ((r9 / 8) % 12)) (nI (((r9 / 8) % 12) + (if r9 / 8 / 16 % 2 = 0 then 1 else 4))) (decide (r9 / 8 / 64 % 2 = 1)) := by simp [plR, h9]
          exact wr_i (b1_197, (nI (closeA σ (nI ((r9 / 8) % 12)) (nI (((r9 / 8) % 12) + (if r9 / 8 / 16 % 2 = 0 then 1 else 4))) (decide (r9 / 8 / 64 % 2 = 1))))) rfl (by rw [heS]; exact hbr_197) (by rw [heS]; exact hP) hS hx hb hr dX5_playTurn_200 hlk
        · skip
          refine lv_iload_n hx hb dX5_playTurn_182 rfl (lv_at hl 0 rfl) ?_
          refine lv_bipush (v := (nI 64)) hx hb dX5_playTurn_183 (by decide) ?_
          refine lv_idiv hx hb dX5_playTurn_185 (nI_ne0 (by omega) (by omega)) ?_
          refine ti (pk_div (a := (r9 / 8)) (d := 64) (by omega) (by omega) (by omega)) ?_
          refine lv_iconst (v := (nI 2)) hx hb dX5_playTurn_186 (by decide) ?_
          refine lv_irem hx hb dX5_playTurn_187 (nI_ne0 (by omega) (by omega)) ?_
          refine ti (pk_rem (a := ((r9 / 8) / 64)) (d := 2) (by omega) (by omega) (by omega)) ?_
          refine lv_iconst (v := (nI 1)) hx hb dX5_playTurn_188 (by decide) ?_
          refine lv_icmp_ne (tgt := 196) hx hb dX5_playTurn_189 (by decide) (fun c_189 => ?_) (fun c_189 => ?_)
          · have c_189 := (nc_ne9 (by omega) (by omega) c_189)
            refine lv_iconst (v := (nI 0)) hx hb dX5_playTurn_196 (by decide) ?_
            exact jn197 _ (by simp [c_189, bI, nI_0, nI_o])
          · have c_189 := (nc_eq9 (by omega) (by omega) c_189)
            refine lv_iconst (v := (nI 1)) hx hb dX5_playTurn_192 (by decide) ?_
            refine lv_goto (tgt := 197) hx hb dX5_playTurn_193 (by decide) ?_
            exact jn197 _ (by simp [c_189, bI, nI_0, nI_o])
      · skip
        refine lv_iload_n hx hb dX5_playTurn_167 rfl (lv_at hl 0 rfl) ?_
        refine lv_bipush (v := (nI 16)) hx hb dX5_playTurn_168 (by decide) ?_
        refine lv_idiv hx hb dX5_playTurn_170 (nI_ne0 (by omega) (by omega)) ?_
        refine ti (pk_div (a := (r9 / 8)) (d := 16) (by omega) (by omega) (by omega)) ?_
        refine lv_iconst (v := (nI 2)) hx hb dX5_playTurn_171 (by decide) ?_
        refine lv_irem hx hb dX5_playTurn_172 (nI_ne0 (by omega) (by omega)) ?_
        refine ti (pk_rem (a := ((r9 / 8) / 16)) (d := 2) (by omega) (by omega) (by omega)) ?_
        refine lv_if_ne (tgt := 180) hx hb dX5_playTurn_173 (by decide) (fun c_173 => ?_) (fun c_173 => ?_)
        · have c_173 := (nz_ne c_173 (by omega))
          refine lv_iconst (v := (nI 4)) hx hb dX5_playTurn_180 (by decide) ?_
          exact jn181 _ (congrArg nI (by simp [c_173]))
        · have c_173 := (nz_eq c_173 (by omega))
          refine lv_iconst (v := (nI 1)) hx hb dX5_playTurn_176 (by decide) ?_
          refine lv_goto (tgt := 181) hx hb dX5_playTurn_177 (by decide) ?_
          exact jn181 _ (congrArg nI (by simp [c_173]))
