/-! THE REFERENCE: a text, command by command. -/
theorem ld_k {u : Bool} {X : Prop} [Decidable X] (c : u = true) : (if u = true ∧ ¬ X then 0 else 1 : Nat) = if X then 1 else 0 := by
  by_cases h : X <;> simp [h, c]
theorem tx_end {tx : Nat → Nat} {ln q n : Nat} (h : ¬ q < ln) : txF tx ln n q = (true, q) := by
  cases n with
  | zero => rfl
  | succ n => exact if_neg h
theorem erF_n {tx : Nat → Nat} {ln : Nat} (h : sgn tx ln 0 ≠ 77) : erF tx ln = 0 := if_neg h
theorem cp_00 {τ σ : Nat → Nat} {j : Nat} (hj : j < 248) : mS (cpS τ σ 0 0 248) j = mS τ j := by
  show nI _ = nI _
  have := cpS_in (f := τ) (t := σ) (fa := 0) (ta := 0) hj
  rw [Nat.zero_add] at this
  rw [this]
theorem ld_77 {tx : Nat → Nat} {ln : Nat} (h : sgn tx ln 0 = 77) : ldA tx ln = ldF tx ln 120 1 newS 0 := by
  unfold ldA
  rw [if_pos h]
theorem er_77 {tx : Nat → Nat} {ln : Nat} (h : sgn tx ln 0 = 77) : erF tx ln = if (txF tx ln 120 1).1 = true then NN else (txF tx ln 120 1).2 := if_pos h

set_option maxHeartbeats 4000000 in
set_option maxRecDepth 100000 in
theorem c_X8_readCommand (l : Launch) (g : va_G) (cy : Nat → ClassId) (mo a1 a2 a3 a4 a5 a6 mw mh sa : Nat) (sz : Nat) (rf : Nat) (ln : Nat) (ac : Nat) (p : Nat) (ou : Nat) (tx : Nat → Nat) (wy : Nat → Nat) (w9 : Nat → Nat) (σ : Nat → Nat) (bd : Nat) (hwf : WF bd σ) (htx : ∀ i9, tx i9 < 256) (hln : ln ≤ 120) (hpl : p < ln) : Met l yX8_readCommand (Cond.code yX8_readCommand cX8_readCommand 4 (some .boolean) :: wsL_law) ({ frames := 7, cells := 0, slots := 0, locals := 172 } : Room) (va_Pc [.ref mo, .ref sa] (pr g cy [(mo, .inr (6, [.int (nI rf), .ref a1, .int (nI ln), .ref a2, .ref a3, .ref a4, .int (nI ac), .ref a5, .ref a6, .ref mw, .ref mh, .int (nI p), .int (nI ou)])), aI cy a1 120 (mS tx), aI cy mw 144 (mS wy), aI cy mh 8 (mS w9), aI cy sa 248 (mS σ)] sz)) (wr_Q (fun u9 : (Bool × Nat × (Nat → Nat)) × (Nat → Nat) × (Nat) × (Nat → Nat) × (Nat → Nat) => (some (.int (bI u9.1.1)))) (fun u9 : (Bool × Nat × (Nat → Nat)) × (Nat → Nat) × (Nat) × (Nat → Nat) × (Nat → Nat) => (u9.1 = cmdF tx ln p z9) ∧ (u9.1.1 = true → u9.2.1 = doR (sgn tx ln p) u9.1.2.2 σ ∧ u9.2.2.1 = ou + (if nI (doA (sgn tx ln p) u9.1.2.2 σ) = nI NN2 then 1 else 0))) (fun u9 : (Bool × Nat × (Nat → Nat)) × (Nat → Nat) × (Nat) × (Nat → Nat) × (Nat → Nat) => [(mo, .inr (6, [.int (nI rf), .ref a1, .int (nI ln), .ref a2, .ref a3, .ref a4, .int (nI ac), .ref a5, .ref a6, .ref mw, .ref mh, .int (nI u9.1.2.1), .int (nI u9.2.2.1)])), aI cy a1 120 (mS tx), aI cy mw 144 (mS u9.2.2.2.1), aI cy mh 8 (mS u9.2.2.2.2), aI cy sa 248 (mS u9.2.1)]) g (va_A [(mo, .inr (6, [.int (nI rf), .ref a1, .int (nI ln), .ref a2, .ref a3, .ref a4, .int (nI ac), .ref a5, .ref a6, .ref mw, .ref mh, .int (nI p), .int (nI ou)])), aI cy a1 120 (mS tx), aI cy mw 144 (mS wy), aI cy mh 8 (mS w9), aI cy sa 248 (mS σ)] sz)) 0 0 (va_A [(mo, .inr (6, [.int (nI rf), .ref a1, .int (nI ln), .ref a2, .ref a3, .ref a4, .int (nI ac), .ref a5, .ref a6, .ref mw, .ref mh, .int (nI p), .int (nI ou)])), aI cy a1 120 (mS tx), aI cy mw 144 (mS wy), aI cy mh 8 (mS w9), aI cy sa 248 (mS σ)] sz) := by
  refine mt_of (cc := cX8_readCommand) (maxL := 4) (ret := (some .boolean)) (by decide +kernel) (Nat.le_of_ble_eq_true rfl) ?_
  intro pX eX s mX below meth cX ls A hx hb hr hml hown hts hlk hin hsz hAe hA hP hD hK hX hl
  subst hsz
  rw [← hAe]
  clear hAe
  have hl : lv_has ls 4 [(0, .ref mo), (1, .ref sa)] := hl
  have hS : va_S A s.heap s.heap [] := va_S.rf
  have hn0 := hwf.n0
  have hn1 := hwf.n1
  have hh2 := hwf.h2
  refine lv_aload_n hx hb dX8_readCommand_0 rfl (lv_at hl 0 rfl) ?_
  refine va_get (D := g) (ci := 6) (v := .ref a1) (C := RX8) (T := TX8) (N := 13) hx hb hts bgX8 hown hK hP 0 rfl rfl 1 (by decide) (hts _ wd5_20) (fun _ h9 => h9) rfl dX8_readCommand_1 ?_
  refine lv_aload_n hx hb dX8_readCommand_4 rfl (lv_at hl 0 rfl) ?_
  refine va_get (D := g) (ci := 6) (v := .int (nI p)) (C := RX8) (T := TX8) (N := 13) hx hb hts bgX8 hown hK hP 0 rfl rfl 11 (by decide) (hts _ wd10_23) (fun _ h9 => h9) rfl dX8_readCommand_5 ?_
  refine va_iald hx hb hK hP 1 0 rfl rfl (vp_in_nI (n := p) (by omega) (by omega)) dX8_readCommand_8 ?_
  refine ti (show (mS tx) (nI p).toNatClampNeg = nI (tx p) from by rw [nI_clamp (by omega)]; rfl) ?_
  refine ti (show (nI (tx p)) = (nI (sgn tx ln p)) from (congrArg nI (show sgn tx ln p = tx p from if_pos hpl).symm)) ?_
  refine lv_istore_n (lv' := [(2, .int (nI (sgn tx ln p))), (0, .ref mo), (1, .ref sa)]) hx hb dX8_readCommand_9 rfl hl (by decide) rfl (fun ls hl => ?_)
  refine lv_aload_n hx hb dX8_readCommand_10 rfl (lv_at hl 1 rfl) ?_
  refine lv_dup hx hb dX8_readCommand_11 rfl ?_
  refine va_get (D := g) (ci := 6) (v := .int (nI p)) (C := RX8) (T := TX8) (N := 13) hx hb hts bgX8 hown hK hP 0 rfl rfl 11 (by decide) (hts _ wd10_23) (fun _ h9 => h9) rfl dX8_readCommand_12 ?_
  refine lv_iconst (v := (nI 1)) hx hb dX8_readCommand_15 (by decide) ?_
  refine lv_iadd hx hb dX8_readCommand_16 ?_
  refine ti (nI_add p 1) ?_
  refine va_put (D := g) (ci := 6) (v := .int (nI (p + 1))) (ty := .int) (C := RX8) (T := TX8) (N := 13) hx hb hts bgX8 tyX8 tyX8_ok nmX8 hown hK hP hD hS 0 rfl rfl 11 (by decide) (hts _ wd10_23) (fun _ h9 => h9) rfl (by decide +kernel) rfl rfl (Nat.le_of_ble_eq_true rfl) dX8_readCommand_17 (fun H locs hP hD hS => ?_)
  have hP : va_P g vwCl [(mo, .inr (6, [.int (nI rf), .ref a1, .int (nI ln), .ref a2, .ref a3, .ref a4, .int (nI ac), .ref a5, .ref a6, .ref mw, .ref mh, .int (nI (p + 1)), .int (nI ou)])), aI cy a1 120 (mS tx), aI cy mw 144 (mS wy), aI cy mh 8 (mS w9), aI cy sa 248 (mS σ)] H := hP
  have hD : va_D A [(mo, .inr (6, [.int (nI rf), .ref a1, .int (nI ln), .ref a2, .ref a3, .ref a4, .int (nI ac), .ref a5, .ref a6, .ref mw, .ref mh, .int (nI (p + 1)), .int (nI ou)])), aI cy a1 120 (mS tx), aI cy mw 144 (mS wy), aI cy mh 8 (mS w9), aI cy sa 248 (mS σ)] := hD
  refine lv_iload_n hx hb dX8_readCommand_20 rfl (lv_at hl 0 rfl) ?_
  have hlt9 : sgn tx ln p < 2 ^ 32 := by rw [show sgn tx ln p = tx p from if_pos hpl]; have := htx p; omega
  by_cases c_21_100 : (nI (sgn tx ln p)) = nI 100
  · refine lv_lookup (tgt := 72) (off := 51) hx hb dX8_readCommand_21 rfl (by rw [c_21_100]; decide) (by decide) ?_
    have h9 : cmdF tx ln p z9 = rdL tx ln lsD9 (p + 1) 0 z9 := by unfold cmdF; rw [if_pos c_21_100]
    have hlt : sgn tx ln p = 100 := nc_eq9 hlt9 (by decide) c_21_100
    refine lv_aload_n hx hb dX8_readCommand_72 rfl (lv_at hl 1 rfl) ?_
    refine lv_aload_n hx hb dX8_readCommand_73 rfl (lv_at hl 2 rfl) ?_
    refine wr_call (wc := [(mo, .inr (6, [.int (nI rf), .ref a1, .int (nI ln), .ref a2, .ref a3, .ref a4, .int (nI ac), .ref a5, .ref a6, .ref mw, .ref mh, .int (nI (p + 1)), .int (nI ou)])), aI cy a1 120 (mS tx), aI cy mw 144 (mS wy), aI cy mh 8 (mS w9), aI cy sa 248 (mS σ)]) (va_runV (As := [.ref sa]) (rest := []) ⟨hx, hb, hml, hown, hts⟩ (c_X8_readLose l g cy mo a1 a2 a3 a4 a5 a6 mw mh sa H.size rf ln ac (p + 1) ou tx wy w9 σ bd hwf htx (by omega) (by omega)) ⟨(cB 1 hts wd11_7 wd1_5 wd11_4 rfl rfl (by decide +kernel) ⟨Nat.le_of_ble_eq_true rfl, Nat.le_of_ble_eq_true rfl⟩), hts _ wd11_5, hts _ wd11_6⟩ (pv hK hP hD hS hA hX [0, 1, 2, 3, 4] rfl rfl 6 0 rfl rfl) rfl rfl hl.1 rfl (lv_room (Nat.le_of_ble_eq_true rfl)) dX8_readCommand_74 ⟨Nat.zero_le _, Nat.zero_le _⟩) hP hD hS hA [0, 1, 2, 3, 4] rfl rfl (fun _ => (rfl : ([mo, a1, mw, mh, sa] : List Nat) = [mo, a1, mw, mh, sa])) ?_
    rintro ⟨q_74, s1_74, ou1_74, wy1_74, w91_74⟩ H locs ⟨hq_74, ho_74⟩ hP hD hS
    have hP : va_P g vwCl [(mo, .inr (6, [.int (nI rf), .ref a1, .int (nI ln), .ref a2, .ref a3, .ref a4, .int (nI ac), .ref a5, .ref a6, .ref mw, .ref mh, .int (nI q_74.2.1), .int (nI ou1_74)])), aI cy a1 120 (mS tx), aI cy mw 144 (mS wy1_74), aI cy mh 8 (mS w91_74), aI cy sa 248 (mS s1_74)] H := hP
    have hD : va_D A [(mo, .inr (6, [.int (nI rf), .ref a1, .int (nI ln), .ref a2, .ref a3, .ref a4, .int (nI ac), .ref a5, .ref a6, .ref mw, .ref mh, .int (nI q_74.2.1), .int (nI ou1_74)])), aI cy a1 120 (mS tx), aI cy mw 144 (mS wy1_74), aI cy mh 8 (mS w91_74), aI cy sa 248 (mS s1_74)] := hD
    have hq_74 : q_74 = rdL tx ln lsD9 (p + 1) 0 z9 := hq_74
    have ho_74 : q_74.1 = true → s1_74 = doR 100 q_74.2.2 σ ∧ ou1_74 = ou + (if nI (doA 100 q_74.2.2 σ) = nI NN2 then 1 else 0) := ho_74
    show W _ _ _ _ _ _ _ _ _ _ _ _ _ _ _ (F0 mX 77 ls [.int (bI q_74.1)])
    exact wr_z (b := q_74.1) (q_74, s1_74, ou1_74, wy1_74, w91_74) rfl rfl ⟨(hq_74.trans h9.symm), (by rw [hlt]; exact ho_74)⟩ hP hS hx hb hr dX8_readCommand_77 hlk
  · skip
    by_cases c_21_102 : (nI (sgn tx ln p)) = nI 102
    · refine lv_lookup (tgt := 84) (off := 63) hx hb dX8_readCommand_21 rfl (by rw [c_21_102]; decide) (by decide) ?_
      have h9 : cmdF tx ln p z9 = rdL tx ln lsF9 (p + 1) 0 z9 := by unfold cmdF; rw [if_neg c_21_100, if_pos c_21_102]
      have hlt : sgn tx ln p = 102 := nc_eq9 hlt9 (by decide) c_21_102
      refine lv_aload_n hx hb dX8_readCommand_84 rfl (lv_at hl 1 rfl) ?_
      refine lv_aload_n hx hb dX8_readCommand_85 rfl (lv_at hl 2 rfl) ?_
      refine wr_call (wc := [(mo, .inr (6, [.int (nI rf), .ref a1, .int (nI ln), .ref a2, .ref a3, .ref a4, .int (nI ac), .ref a5, .ref a6, .ref mw, .ref mh, .int (nI (p + 1)), .int (nI ou)])), aI cy a1 120 (mS tx), aI cy mw 144 (mS wy), aI cy mh 8 (mS w9), aI cy sa 248 (mS σ)]) (va_runV (As := [.ref sa]) (rest := []) ⟨hx, hb, hml, hown, hts⟩ (c_X8_readFind l g cy mo a1 a2 a3 a4 a5 a6 mw mh sa H.size rf ln ac (p + 1) ou tx wy w9 σ bd hwf htx (by omega) (by omega)) ⟨(cB 1 hts wd13_9 wd1_5 wd13_6 rfl rfl (by decide +kernel) ⟨Nat.le_of_ble_eq_true rfl, Nat.le_of_ble_eq_true rfl⟩), hts _ wd13_7, hts _ wd13_8⟩ (pv hK hP hD hS hA hX [0, 1, 2, 3, 4] rfl rfl 6 0 rfl rfl) rfl rfl hl.1 rfl (lv_room (Nat.le_of_ble_eq_true rfl)) dX8_readCommand_86 ⟨Nat.zero_le _, Nat.zero_le _⟩) hP hD hS hA [0, 1, 2, 3, 4] rfl rfl (fun _ => (rfl : ([mo, a1, mw, mh, sa] : List Nat) = [mo, a1, mw, mh, sa])) ?_
      rintro ⟨q_86, s1_86, ou1_86, wy1_86, w91_86⟩ H locs ⟨hq_86, ho_86⟩ hP hD hS
      have hP : va_P g vwCl [(mo, .inr (6, [.int (nI rf), .ref a1, .int (nI ln), .ref a2, .ref a3, .ref a4, .int (nI ac), .ref a5, .ref a6, .ref mw, .ref mh, .int (nI q_86.2.1), .int (nI ou1_86)])), aI cy a1 120 (mS tx), aI cy mw 144 (mS wy1_86), aI cy mh 8 (mS w91_86), aI cy sa 248 (mS s1_86)] H := hP
      have hD : va_D A [(mo, .inr (6, [.int (nI rf), .ref a1, .int (nI ln), .ref a2, .ref a3, .ref a4, .int (nI ac), .ref a5, .ref a6, .ref mw, .ref mh, .int (nI q_86.2.1), .int (nI ou1_86)])), aI cy a1 120 (mS tx), aI cy mw 144 (mS wy1_86), aI cy mh 8 (mS w91_86), aI cy sa 248 (mS s1_86)] := hD
      have hq_86 : q_86 = rdL tx ln lsF9 (p + 1) 0 z9 := hq_86
      have ho_86 : q_86.1 = true → s1_86 = doR 102 q_86.2.2 σ ∧ ou1_86 = ou + (if nI (doA 102 q_86.2.2 σ) = nI NN2 then 1 else 0) := ho_86
      show W _ _ _ _ _ _ _ _ _ _ _ _ _ _ _ (F0 mX 89 ls [.int (bI q_86.1)])
      exact wr_z (b := q_86.1) (q_86, s1_86, ou1_86, wy1_86, w91_86) rfl rfl ⟨(hq_86.trans h9.symm), (by rw [hlt]; exact ho_86)⟩ hP hS hx hb hr dX8_readCommand_89 hlk
    · skip
      by_cases c_21_104 : (nI (sgn tx ln p)) = nI 104
      · refine lv_lookup (tgt := 96) (off := 75) hx hb dX8_readCommand_21 rfl (by rw [c_21_104]; decide) (by decide) ?_
        have h9 : cmdF tx ln p z9 = rdL tx ln lsH9 (p + 1) 0 z9 := by unfold cmdF; rw [if_neg c_21_100, if_neg c_21_102, if_pos c_21_104]
        have hlt : sgn tx ln p = 104 := nc_eq9 hlt9 (by decide) c_21_104
        refine lv_aload_n hx hb dX8_readCommand_96 rfl (lv_at hl 1 rfl) ?_
        refine lv_iconst (v := (nI 0)) hx hb dX8_readCommand_97 (by decide) ?_
        refine lv_bipush (v := (nI 10)) hx hb dX8_readCommand_98 (by decide) ?_
        refine lv_iconst (v := (nI 1)) hx hb dX8_readCommand_100 (by decide) ?_
        refine lv_bipush (v := (nI 99)) hx hb dX8_readCommand_101 (by decide) ?_
        refine wr_call (wc := [(mo, .inr (6, [.int (nI rf), .ref a1, .int (nI ln), .ref a2, .ref a3, .ref a4, .int (nI ac), .ref a5, .ref a6, .ref mw, .ref mh, .int (nI (p + 1)), .int (nI ou)])), aI cy a1 120 (mS tx)]) (va_runV (As := [.int (nI 0), .int (nI 10), .int (nI 1), .int (nI 99)]) (rest := []) ⟨hx, hb, hml, hown, hts⟩ (c_X8_figures l g cy mo a1 a2 a3 a4 a5 a6 mw mh H.size rf ln ac (p + 1) ou tx 0 2 10 1 99 htx (by omega) (by omega) ⟨Or.inr (by decide), by decide⟩ (by omega) (by omega) rfl (by omega) (by omega)) ⟨(cB 4 hts wd11_11 wd1_5 wd11_8 rfl rfl (by decide +kernel) ⟨Nat.le_of_ble_eq_true rfl, Nat.le_of_ble_eq_true rfl⟩), hts _ wd11_9, hts _ wd11_10⟩ (pv hK hP hD hS hA hX [0, 1] rfl rfl 6 0 rfl rfl) rfl rfl hl.1 rfl (lv_room (Nat.le_of_ble_eq_true rfl)) dX8_readCommand_103 ⟨Nat.zero_le _, Nat.zero_le _⟩) hP hD hS hA [0, 1] rfl rfl (fun _ => (rfl : ([mo, a1] : List Nat) = [mo, a1])) ?_
        rintro r_103 H locs hr_103 hP hD hS
        have hP : va_P g vwCl [(mo, .inr (6, [.int (nI rf), .ref a1, .int (nI ln), .ref a2, .ref a3, .ref a4, .int (nI ac), .ref a5, .ref a6, .ref mw, .ref mh, .int (nI r_103.2), .int (nI ou)])), aI cy a1 120 (mS tx), aI cy mw 144 (mS wy), aI cy mh 8 (mS w9), aI cy sa 248 (mS σ)] H := hP
        have hD : va_D A [(mo, .inr (6, [.int (nI rf), .ref a1, .int (nI ln), .ref a2, .ref a3, .ref a4, .int (nI ac), .ref a5, .ref a6, .ref mw, .ref mh, .int (nI r_103.2), .int (nI ou)])), aI cy a1 120 (mS tx), aI cy mw 144 (mS wy), aI cy mh 8 (mS w9), aI cy sa 248 (mS σ)] := hD
        have hr_103 : r_103 = fgF tx ln 0 2 1 99 (p + 1) := hr_103
        show W _ _ _ _ _ _ _ _ _ _ _ _ _ _ _ (F0 mX 106 ls [.int (nI r_103.1)])
        have hpv_103 := fg_p hr_103
        have hvv_103 := fg_v (by decide) hr_103
        have hrd := rd1 (x1 := (2, 1, 99)) (f := z9) (by decide) hr_103
        rw [show [(2, 1, 99)] = lsH9 from rfl] at hrd
        refine lv_istore_n (lv' := [(3, .int (nI r_103.1)), (2, .int (nI (sgn tx ln p))), (0, .ref mo), (1, .ref sa)]) hx hb dX8_readCommand_106 rfl hl (by decide) rfl (fun ls hl => ?_)
        refine lv_iload_n hx hb dX8_readCommand_107 rfl (lv_at hl 0 rfl) ?_
        refine lv_iconst (v := (nI NN)) hx hb dX8_readCommand_108 (by decide) ?_
        refine lv_icmp_eq (tgt := 136) hx hb dX8_readCommand_109 (by decide) (fun c_109 => ?_) (fun c_109 => ?_)
        · have c_109 := (nc_eq9 (by omega) (by decide) c_109)
          refine lv_iconst (v := (nI 0)) hx hb dX8_readCommand_136 (by decide) ?_
          exact wr_z (b := false) (cmdF tx ln p z9, σ, ou, wy, w9) rfl (by dsimp only; rw [h9, hrd.1, nn9_f c_109]) ⟨rfl, (fun h8 => absurd h8 (by dsimp only; rw [h9, hrd.1, nn9_f c_109]; decide))⟩ (by dsimp only; rw [h9, hrd.2.1]; exact hP) hS hx hb hr dX8_readCommand_137 hlk
        · have c_109 := (nc_ne9 (by omega) (by decide) c_109)
          obtain ⟨_, l103, h103⟩ := fg_r hr_103 (by decide) c_109
          have hmq := ml_hours hwf ⟨l103, h103⟩
          have hoa := hoA_lt hwf h103
          refine lv_aload_n hx hb dX8_readCommand_112 rfl (lv_at hl 2 rfl) ?_
          refine lv_aload_n hx hb dX8_readCommand_113 rfl (lv_at hl 3 rfl) ?_
          refine lv_iload_n hx hb dX8_readCommand_114 rfl (lv_at hl 0 rfl) ?_
          refine wr_call (wc := [aI cy sa 248 (mS σ)]) (va_runS (As := [.ref sa, .int (nI r_103.1)]) (rest := [.ref mo]) ⟨hx, hb, hml, hown, hts⟩ (c_X8_hoursOn l g cy sa H.size σ bd r_103.1 hwf (by omega)) ⟨(cB 2 hts wd15_15 wd1_5 wd15_13 rfl rfl (by decide +kernel) ⟨Nat.le_of_ble_eq_true rfl, Nat.le_of_ble_eq_true rfl⟩), hts _ wd15_14⟩ (ps hK hP hD hS hA hX [4] rfl rfl) rfl rfl hl.1 rfl (lv_room (Nat.le_of_ble_eq_true rfl)) dX8_readCommand_115 ⟨Nat.zero_le _, Nat.zero_le _⟩) hP hD hS hA [4] rfl rfl (fun _ => (rfl : ([sa] : List Nat) = [sa])) ?_
          rintro _u9 H locs - hP hD hS
          have hP : va_P g vwCl [(mo, .inr (6, [.int (nI rf), .ref a1, .int (nI ln), .ref a2, .ref a3, .ref a4, .int (nI ac), .ref a5, .ref a6, .ref mw, .ref mh, .int (nI r_103.2), .int (nI ou)])), aI cy a1 120 (mS tx), aI cy mw 144 (mS wy), aI cy mh 8 (mS w9), aI cy sa 248 (mS (hoS σ r_103.1))] H := hP
          have hD : va_D A [(mo, .inr (6, [.int (nI rf), .ref a1, .int (nI ln), .ref a2, .ref a3, .ref a4, .int (nI ac), .ref a5, .ref a6, .ref mw, .ref mh, .int (nI r_103.2), .int (nI ou)])), aI cy a1 120 (mS tx), aI cy mw 144 (mS wy), aI cy mh 8 (mS w9), aI cy sa 248 (mS (hoS σ r_103.1))] := hD
          show W _ _ _ _ _ _ _ _ _ _ _ _ _ _ _ (F0 mX 118 ls [.int (nI (sm (gro σ r_103.1) (σ 0))), .ref mo])
          refine lv_if_lt (tgt := 125) hx hb dX8_readCommand_118 (by decide) (fun c_118 => ?_) (fun c_118 => ?_)
          · exact absurd c_118 (nI_pos (by omega))
          · skip
            refine lv_iconst (v := (nI 1)) hx hb dX8_readCommand_121 (by decide) ?_
            refine ti (show (nI 1) = (bI true) from rfl) ?_
            refine lv_goto (tgt := 126) hx hb dX8_readCommand_122 (by decide) ?_
            refine wr_call (wc := [(mo, .inr (6, [.int (nI rf), .ref a1, .int (nI ln), .ref a2, .ref a3, .ref a4, .int (nI ac), .ref a5, .ref a6, .ref mw, .ref mh, .int (nI r_103.2), .int (nI ou)]))]) (va_runV (As := [.int (bI true)]) (rest := []) ⟨hx, hb, hml, hown, hts⟩ (c_X8_done l g cy mo a1 a2 a3 a4 a5 a6 mw mh H.size rf ln ac r_103.2 ou true ) ⟨(cB 1 hts wd11_23 wd1_5 wd11_20 rfl rfl (by decide +kernel) ⟨Nat.le_of_ble_eq_true rfl, Nat.le_of_ble_eq_true rfl⟩), hts _ wd11_21, hts _ wd11_22⟩ (pv hK hP hD hS hA hX [0] rfl rfl 6 0 rfl rfl) rfl rfl hl.1 rfl (lv_room (Nat.le_of_ble_eq_true rfl)) dX8_readCommand_126 ⟨Nat.zero_le _, Nat.zero_le _⟩) hP hD hS hA [0] rfl rfl (fun _ => (rfl : ([mo] : List Nat) = [mo])) ?_
            rintro _u9 H locs - hP hD hS
            have hP : va_P g vwCl [(mo, .inr (6, [.int (nI rf), .ref a1, .int (nI ln), .ref a2, .ref a3, .ref a4, .int (nI ac), .ref a5, .ref a6, .ref mw, .ref mh, .int (nI r_103.2), .int (nI (ou + (if true = true then 0 else 1)))])), aI cy a1 120 (mS tx), aI cy mw 144 (mS wy), aI cy mh 8 (mS w9), aI cy sa 248 (mS (hoS σ r_103.1))] H := hP
            have hD : va_D A [(mo, .inr (6, [.int (nI rf), .ref a1, .int (nI ln), .ref a2, .ref a3, .ref a4, .int (nI ac), .ref a5, .ref a6, .ref mw, .ref mh, .int (nI r_103.2), .int (nI (ou + (if true = true then 0 else 1)))])), aI cy a1 120 (mS tx), aI cy mw 144 (mS wy), aI cy mh 8 (mS w9), aI cy sa 248 (mS (hoS σ r_103.1))] := hD
            show W _ _ _ _ _ _ _ _ _ _ _ _ _ _ _ (F0 mX 129 ls [.int (bI true)])
            refine lv_if_eq (tgt := 136) hx hb dX8_readCommand_129 (by decide) (fun c_129 => ?_) (fun c_129 => ?_)
            · have c_129 := (bI_eq0.mp c_129)
              exact absurd c_129 (by decide)
            · have c_129 := (bI_ne0.mp c_129)
              refine lv_iconst (v := (nI 1)) hx hb dX8_readCommand_132 (by decide) ?_
              refine lv_goto (tgt := 137) hx hb dX8_readCommand_133 (by decide) ?_
              exact wr_z (b := true) (cmdF tx ln p z9, (hoS σ r_103.1), (ou + (if true = true then 0 else 1)), wy, w9) rfl (by dsimp only; rw [h9, hrd.1, nn9_t c_109]) ⟨rfl, (fun _ => by dsimp only; rw [h9, show (rdL tx ln lsH9 (p + 1) 0 z9).2.2 = pf1 r_103.1 from hrd.2.2 c_109, hlt]; exact ⟨hmq.1.symm, by rw [if_neg hmq.2]; rfl⟩)⟩ (by dsimp only; rw [h9, hrd.2.1]; exact hP) hS hx hb hr dX8_readCommand_137 hlk
      · skip
        by_cases c_21_115 : (nI (sgn tx ln p)) = nI 115
        · refine lv_lookup (tgt := 78) (off := 57) hx hb dX8_readCommand_21 rfl (by rw [c_21_115]; decide) (by decide) ?_
          have h9 : cmdF tx ln p z9 = rdL tx ln lsS9 (p + 1) 0 z9 := by unfold cmdF; rw [if_neg c_21_100, if_neg c_21_102, if_neg c_21_104, if_pos c_21_115]
          have hlt : sgn tx ln p = 115 := nc_eq9 hlt9 (by decide) c_21_115
          refine lv_aload_n hx hb dX8_readCommand_78 rfl (lv_at hl 1 rfl) ?_
          refine lv_aload_n hx hb dX8_readCommand_79 rfl (lv_at hl 2 rfl) ?_
          refine wr_call (wc := [(mo, .inr (6, [.int (nI rf), .ref a1, .int (nI ln), .ref a2, .ref a3, .ref a4, .int (nI ac), .ref a5, .ref a6, .ref mw, .ref mh, .int (nI (p + 1)), .int (nI ou)])), aI cy a1 120 (mS tx), aI cy mw 144 (mS wy), aI cy mh 8 (mS w9), aI cy sa 248 (mS σ)]) (va_runV (As := [.ref sa]) (rest := []) ⟨hx, hb, hml, hown, hts⟩ (c_X8_readSight l g cy mo a1 a2 a3 a4 a5 a6 mw mh sa H.size rf ln ac (p + 1) ou tx wy w9 σ bd hwf htx (by omega) (by omega)) ⟨(cB 1 hts wd12_3 wd1_5 wd12_0 rfl rfl (by decide +kernel) ⟨Nat.le_of_ble_eq_true rfl, Nat.le_of_ble_eq_true rfl⟩), hts _ wd12_1, hts _ wd12_2⟩ (pv hK hP hD hS hA hX [0, 1, 2, 3, 4] rfl rfl 6 0 rfl rfl) rfl rfl hl.1 rfl (lv_room (Nat.le_of_ble_eq_true rfl)) dX8_readCommand_80 ⟨Nat.zero_le _, Nat.zero_le _⟩) hP hD hS hA [0, 1, 2, 3, 4] rfl rfl (fun _ => (rfl : ([mo, a1, mw, mh, sa] : List Nat) = [mo, a1, mw, mh, sa])) ?_
          rintro ⟨q_80, s1_80, ou1_80, wy1_80, w91_80⟩ H locs ⟨hq_80, ho_80⟩ hP hD hS
          have hP : va_P g vwCl [(mo, .inr (6, [.int (nI rf), .ref a1, .int (nI ln), .ref a2, .ref a3, .ref a4, .int (nI ac), .ref a5, .ref a6, .ref mw, .ref mh, .int (nI q_80.2.1), .int (nI ou1_80)])), aI cy a1 120 (mS tx), aI cy mw 144 (mS wy1_80), aI cy mh 8 (mS w91_80), aI cy sa 248 (mS s1_80)] H := hP
          have hD : va_D A [(mo, .inr (6, [.int (nI rf), .ref a1, .int (nI ln), .ref a2, .ref a3, .ref a4, .int (nI ac), .ref a5, .ref a6, .ref mw, .ref mh, .int (nI q_80.2.1), .int (nI ou1_80)])), aI cy a1 120 (mS tx), aI cy mw 144 (mS wy1_80), aI cy mh 8 (mS w91_80), aI cy sa 248 (mS s1_80)] := hD
          have hq_80 : q_80 = rdL tx ln lsS9 (p + 1) 0 z9 := hq_80
          have ho_80 : q_80.1 = true → s1_80 = doR 115 q_80.2.2 σ ∧ ou1_80 = ou + (if nI (doA 115 q_80.2.2 σ) = nI NN2 then 1 else 0) := ho_80
          show W _ _ _ _ _ _ _ _ _ _ _ _ _ _ _ (F0 mX 83 ls [.int (bI q_80.1)])
          exact wr_z (b := q_80.1) (q_80, s1_80, ou1_80, wy1_80, w91_80) rfl rfl ⟨(hq_80.trans h9.symm), (by rw [hlt]; exact ho_80)⟩ hP hS hx hb hr dX8_readCommand_83 hlk
        · skip
          by_cases c_21_120 : (nI (sgn tx ln p)) = nI 120
          · refine lv_lookup (tgt := 90) (off := 69) hx hb dX8_readCommand_21 rfl (by rw [c_21_120]; decide) (by decide) ?_
            have h9 : cmdF tx ln p z9 = rdL tx ln lsX9 (p + 1) 0 z9 := by unfold cmdF; rw [if_neg c_21_100, if_neg c_21_102, if_neg c_21_104, if_neg c_21_115, if_pos c_21_120]
            have hlt : sgn tx ln p = 120 := nc_eq9 hlt9 (by decide) c_21_120
            refine lv_aload_n hx hb dX8_readCommand_90 rfl (lv_at hl 1 rfl) ?_
            refine lv_aload_n hx hb dX8_readCommand_91 rfl (lv_at hl 2 rfl) ?_
            refine wr_call (wc := [(mo, .inr (6, [.int (nI rf), .ref a1, .int (nI ln), .ref a2, .ref a3, .ref a4, .int (nI ac), .ref a5, .ref a6, .ref mw, .ref mh, .int (nI (p + 1)), .int (nI ou)])), aI cy a1 120 (mS tx), aI cy mw 144 (mS wy), aI cy mh 8 (mS w9), aI cy sa 248 (mS σ)]) (va_runV (As := [.ref sa]) (rest := []) ⟨hx, hb, hml, hown, hts⟩ (c_X8_readClose l g cy mo a1 a2 a3 a4 a5 a6 mw mh sa H.size rf ln ac (p + 1) ou tx wy w9 σ bd hwf htx (by omega) (by omega)) ⟨(cB 1 hts wd15_6 wd1_5 wd15_3 rfl rfl (by decide +kernel) ⟨Nat.le_of_ble_eq_true rfl, Nat.le_of_ble_eq_true rfl⟩), hts _ wd15_4, hts _ wd15_5⟩ (pv hK hP hD hS hA hX [0, 1, 2, 3, 4] rfl rfl 6 0 rfl rfl) rfl rfl hl.1 rfl (lv_room (Nat.le_of_ble_eq_true rfl)) dX8_readCommand_92 ⟨Nat.zero_le _, Nat.zero_le _⟩) hP hD hS hA [0, 1, 2, 3, 4] rfl rfl (fun _ => (rfl : ([mo, a1, mw, mh, sa] : List Nat) = [mo, a1, mw, mh, sa])) ?_
            rintro ⟨q_92, s1_92, ou1_92, wy1_92, w91_92⟩ H locs ⟨hq_92, ho_92⟩ hP hD hS
            have hP : va_P g vwCl [(mo, .inr (6, [.int (nI rf), .ref a1, .int (nI ln), .ref a2, .ref a3, .ref a4, .int (nI ac), .ref a5, .ref a6, .ref mw, .ref mh, .int (nI q_92.2.1), .int (nI ou1_92)])), aI cy a1 120 (mS tx), aI cy mw 144 (mS wy1_92), aI cy mh 8 (mS w91_92), aI cy sa 248 (mS s1_92)] H := hP
            have hD : va_D A [(mo, .inr (6, [.int (nI rf), .ref a1, .int (nI ln), .ref a2, .ref a3, .ref a4, .int (nI ac), .ref a5, .ref a6, .ref mw, .ref mh, .int (nI q_92.2.1), .int (nI ou1_92)])), aI cy a1 120 (mS tx), aI cy mw 144 (mS wy1_92), aI cy mh 8 (mS w91_92), aI cy sa 248 (mS s1_92)] := hD
            have hq_92 : q_92 = rdL tx ln lsX9 (p + 1) 0 z9 := hq_92
            have ho_92 : q_92.1 = true → s1_92 = doR 120 q_92.2.2 σ ∧ ou1_92 = ou + (if nI (doA 120 q_92.2.2 σ) = nI NN2 then 1 else 0) := ho_92
            show W _ _ _ _ _ _ _ _ _ _ _ _ _ _ _ (F0 mX 95 ls [.int (bI q_92.1)])
            exact wr_z (b := q_92.1) (q_92, s1_92, ou1_92, wy1_92, w91_92) rfl rfl ⟨(hq_92.trans h9.symm), (by rw [hlt]; exact ho_92)⟩ hP hS hx hb hr dX8_readCommand_95 hlk
          · skip
            refine lv_lookup (tgt := 138) (off := 117) hx hb dX8_readCommand_21 rfl ((lv_osw c_21_100 (a := 100) (by decide)).trans ((lv_osw c_21_102 (a := 102) (by decide)).trans ((lv_osw c_21_104 (a := 104) (by decide)).trans ((lv_osw c_21_115 (a := 115) (by decide)).trans ((lv_osw c_21_120 (a := 120) (by decide)).trans (rfl)))))) (by decide) ?_
            have h9 : cmdF tx ln p z9 = (false, p, z9) := by unfold cmdF; rw [if_neg c_21_100, if_neg c_21_102, if_neg c_21_104, if_neg c_21_115, if_neg c_21_120]
            refine lv_aload_n hx hb dX8_readCommand_138 rfl (lv_at hl 1 rfl) ?_
            refine lv_dup hx hb dX8_readCommand_139 rfl ?_
            refine va_get (D := g) (ci := 6) (v := .int (nI (p + 1))) (C := RX8) (T := TX8) (N := 13) hx hb hts bgX8 hown hK hP 0 rfl rfl 11 (by decide) (hts _ wd10_23) (fun _ h9 => h9) rfl dX8_readCommand_140 ?_
            refine lv_iconst (v := (nI 1)) hx hb dX8_readCommand_143 (by decide) ?_
            refine lv_isub hx hb dX8_readCommand_144 ?_
            refine ti (show ((nI (p + 1)) - (nI 1)) = (nI p) from (pk_sub (by omega))) ?_
            refine va_put (D := g) (ci := 6) (v := .int (nI p)) (ty := .int) (C := RX8) (T := TX8) (N := 13) hx hb hts bgX8 tyX8 tyX8_ok nmX8 hown hK hP hD hS 0 rfl rfl 11 (by decide) (hts _ wd10_23) (fun _ h9 => h9) rfl (by decide +kernel) rfl rfl (Nat.le_of_ble_eq_true rfl) dX8_readCommand_145 (fun H locs hP hD hS => ?_)
            have hP : va_P g vwCl [(mo, .inr (6, [.int (nI rf), .ref a1, .int (nI ln), .ref a2, .ref a3, .ref a4, .int (nI ac), .ref a5, .ref a6, .ref mw, .ref mh, .int (nI p), .int (nI ou)])), aI cy a1 120 (mS tx), aI cy mw 144 (mS wy), aI cy mh 8 (mS w9), aI cy sa 248 (mS σ)] H := hP
            have hD : va_D A [(mo, .inr (6, [.int (nI rf), .ref a1, .int (nI ln), .ref a2, .ref a3, .ref a4, .int (nI ac), .ref a5, .ref a6, .ref mw, .ref mh, .int (nI p), .int (nI ou)])), aI cy a1 120 (mS tx), aI cy mw 144 (mS wy), aI cy mh 8 (mS w9), aI cy sa 248 (mS σ)] := hD
            refine lv_iconst (v := (nI 0)) hx hb dX8_readCommand_148 (by decide) ?_
            exact wr_z (b := false) (cmdF tx ln p z9, σ, ou, wy, w9) rfl (by dsimp only; rw [h9]) ⟨rfl, (fun h8 => absurd h8 (by dsimp only; rw [h9]; exact Bool.false_ne_true))⟩ (by dsimp only; rw [h9]; exact hP) hS hx hb hr dX8_readCommand_149 hlk
set_option maxHeartbeats 4000000 in
set_option maxRecDepth 100000 in
theorem c_X8_readText (l : Launch) (g : va_G) (cy : Nat → ClassId) (mo a1 a2 a3 a4 a5 a6 mw mh sa : Nat) (sz : Nat) (rf : Nat) (ln : Nat) (ac : Nat) (p : Nat) (ou : Nat) (tx : Nat → Nat) (wy : Nat → Nat) (w9 : Nat → Nat) (σ : Nat → Nat) (htx : ∀ i9, tx i9 < 256) (hln : ln ≤ 120) : Met l yX8_readText (Cond.code yX8_readText cX8_readText 2 (some .int) :: wsL_law) ({ frames := 8, cells := 0, slots := 0, locals := 195 } : Room) (va_Pc [.ref mo, .ref sa] (pr g cy [(mo, .inr (6, [.int (nI rf), .ref a1, .int (nI ln), .ref a2, .ref a3, .ref a4, .int (nI ac), .ref a5, .ref a6, .ref mw, .ref mh, .int (nI p), .int (nI ou)])), aI cy a1 120 (mS tx), aI cy mw 144 (mS wy), aI cy mh 8 (mS w9), aI cy sa 248 (mS σ)] sz)) (wr_Q (fun u9 : (Nat → Nat) × (Nat) × (Nat) × (Nat → Nat) × (Nat → Nat) => (some (.int (nI (erF tx ln))))) (fun u9 : (Nat → Nat) × (Nat) × (Nat) × (Nat → Nat) × (Nat → Nat) => (erF tx ln = NN → WF 11880 u9.1 ∧ u9.1 = (ldA tx ln).1 ∧ u9.2.2.1 = (ldA tx ln).2)) (fun u9 : (Nat → Nat) × (Nat) × (Nat) × (Nat → Nat) × (Nat → Nat) => [(mo, .inr (6, [.int (nI rf), .ref a1, .int (nI ln), .ref a2, .ref a3, .ref a4, .int (nI ac), .ref a5, .ref a6, .ref mw, .ref mh, .int (nI u9.2.1), .int (nI u9.2.2.1)])), aI cy a1 120 (mS tx), aI cy mw 144 (mS u9.2.2.2.1), aI cy mh 8 (mS u9.2.2.2.2), aI cy sa 248 (mS u9.1)]) g (va_A [(mo, .inr (6, [.int (nI rf), .ref a1, .int (nI ln), .ref a2, .ref a3, .ref a4, .int (nI ac), .ref a5, .ref a6, .ref mw, .ref mh, .int (nI p), .int (nI ou)])), aI cy a1 120 (mS tx), aI cy mw 144 (mS wy), aI cy mh 8 (mS w9), aI cy sa 248 (mS σ)] sz)) 0 0 (va_A [(mo, .inr (6, [.int (nI rf), .ref a1, .int (nI ln), .ref a2, .ref a3, .ref a4, .int (nI ac), .ref a5, .ref a6, .ref mw, .ref mh, .int (nI p), .int (nI ou)])), aI cy a1 120 (mS tx), aI cy mw 144 (mS wy), aI cy mh 8 (mS w9), aI cy sa 248 (mS σ)] sz) := by
  refine mt_of (cc := cX8_readText) (maxL := 2) (ret := (some .int)) (by decide +kernel) (Nat.le_of_ble_eq_true rfl) ?_
  intro pX eX s mX below meth cX ls A hx hb hr hml hown hts hlk hin hsz hAe hA hP hD hK hX hl
  subst hsz
  rw [← hAe]
  clear hAe
  have hl : lv_has ls 2 [(0, .ref mo), (1, .ref sa)] := hl
  have hS : va_S A s.heap s.heap [] := va_S.rf
  refine lv_aload_n hx hb dX8_readText_0 rfl (lv_at hl 1 rfl) ?_
  refine wr_call (wc := [aI cy sa 248 (mS σ)]) (va_runS (As := [.ref sa]) (rest := []) ⟨hx, hb, hml, hown, hts⟩ (c_X8_clear l g cy sa s.heap.size σ ) ⟨(cB 1 hts wd6_6 wd1_5 wd6_4 rfl rfl (by decide +kernel) ⟨Nat.le_of_ble_eq_true rfl, Nat.le_of_ble_eq_true rfl⟩), hts _ wd6_5⟩ (ps hK hP hD hS hA hX [4] rfl rfl) rfl rfl hl.1 rfl (lv_room (Nat.le_of_ble_eq_true rfl)) dX8_readText_1 ⟨Nat.zero_le _, Nat.zero_le _⟩) hP hD hS hA [4] rfl rfl (fun _ => (rfl : ([sa] : List Nat) = [sa])) ?_
  rintro _u9 H locs - hP hD hS
  have hP : va_P g vwCl [(mo, .inr (6, [.int (nI rf), .ref a1, .int (nI ln), .ref a2, .ref a3, .ref a4, .int (nI ac), .ref a5, .ref a6, .ref mw, .ref mh, .int (nI p), .int (nI ou)])), aI cy a1 120 (mS tx), aI cy mw 144 (mS wy), aI cy mh 8 (mS w9), aI cy sa 248 (mS newS)] H := hP
  have hD : va_D A [(mo, .inr (6, [.int (nI rf), .ref a1, .int (nI ln), .ref a2, .ref a3, .ref a4, .int (nI ac), .ref a5, .ref a6, .ref mw, .ref mh, .int (nI p), .int (nI ou)])), aI cy a1 120 (mS tx), aI cy mw 144 (mS wy), aI cy mh 8 (mS w9), aI cy sa 248 (mS newS)] := hD
  show W _ _ _ _ _ _ _ _ _ _ _ _ _ _ _ (F0 mX 4 ls [])
  refine lv_aload_n hx hb dX8_readText_4 rfl (lv_at hl 0 rfl) ?_
  refine lv_iconst (v := (nI 0)) hx hb dX8_readText_5 (by decide) ?_
  refine va_put (D := g) (ci := 6) (v := .int (nI 0)) (ty := .int) (C := RX8) (T := TX8) (N := 13) hx hb hts bgX8 tyX8 tyX8_ok nmX8 hown hK hP hD hS 0 rfl rfl 12 (by decide) (hts _ wd10_22) (fun _ h9 => h9) rfl (by decide +kernel) rfl rfl (Nat.le_of_ble_eq_true rfl) dX8_readText_6 (fun H locs hP hD hS => ?_)
  have hP : va_P g vwCl [(mo, .inr (6, [.int (nI rf), .ref a1, .int (nI ln), .ref a2, .ref a3, .ref a4, .int (nI ac), .ref a5, .ref a6, .ref mw, .ref mh, .int (nI p), .int (nI 0)])), aI cy a1 120 (mS tx), aI cy mw 144 (mS wy), aI cy mh 8 (mS w9), aI cy sa 248 (mS newS)] H := hP
  have hD : va_D A [(mo, .inr (6, [.int (nI rf), .ref a1, .int (nI ln), .ref a2, .ref a3, .ref a4, .int (nI ac), .ref a5, .ref a6, .ref mw, .ref mh, .int (nI p), .int (nI 0)])), aI cy a1 120 (mS tx), aI cy mw 144 (mS wy), aI cy mh 8 (mS w9), aI cy sa 248 (mS newS)] := hD
  refine lv_aload_n hx hb dX8_readText_9 rfl (lv_at hl 0 rfl) ?_
  refine lv_iconst (v := (nI 0)) hx hb dX8_readText_10 (by decide) ?_
  refine va_put (D := g) (ci := 6) (v := .int (nI 0)) (ty := .int) (C := RX8) (T := TX8) (N := 13) hx hb hts bgX8 tyX8 tyX8_ok nmX8 hown hK hP hD hS 0 rfl rfl 11 (by decide) (hts _ wd10_23) (fun _ h9 => h9) rfl (by decide +kernel) rfl rfl (Nat.le_of_ble_eq_true rfl) dX8_readText_11 (fun H locs hP hD hS => ?_)
  have hP : va_P g vwCl [(mo, .inr (6, [.int (nI rf), .ref a1, .int (nI ln), .ref a2, .ref a3, .ref a4, .int (nI ac), .ref a5, .ref a6, .ref mw, .ref mh, .int (nI 0), .int (nI 0)])), aI cy a1 120 (mS tx), aI cy mw 144 (mS wy), aI cy mh 8 (mS w9), aI cy sa 248 (mS newS)] H := hP
  have hD : va_D A [(mo, .inr (6, [.int (nI rf), .ref a1, .int (nI ln), .ref a2, .ref a3, .ref a4, .int (nI ac), .ref a5, .ref a6, .ref mw, .ref mh, .int (nI 0), .int (nI 0)])), aI cy a1 120 (mS tx), aI cy mw 144 (mS wy), aI cy mh 8 (mS w9), aI cy sa 248 (mS newS)] := hD
  refine lv_aload_n hx hb dX8_readText_14 rfl (lv_at hl 0 rfl) ?_
  refine va_get (D := g) (ci := 6) (v := .int (nI ln)) (C := RX8) (T := TX8) (N := 13) hx hb hts bgX8 hown hK hP 0 rfl rfl 2 (by decide) (hts _ wd7_14) (fun _ h9 => h9) rfl dX8_readText_15 ?_
  refine lv_if_eq (tgt := 32) hx hb dX8_readText_18 (by decide) (fun c_18 => ?_) (fun c_18 => ?_)
  · have c_18 := (nz_eq c_18 (by omega))
    refine lv_iconst (v := (nI 0)) hx hb dX8_readText_32 (by decide) ?_
    have her : erF tx ln = 0 := erF_n (by unfold sgn; rw [if_neg (by omega)]; decide)
    exact wr_i (newS, 0, 0, wy, w9) (by rw [her]) (fun h8 => absurd (her.symm.trans h8) (by decide)) hP hS hx hb hr dX8_readText_33 hlk
  · have c_18 := (nz_ne c_18 (by omega))
    refine lv_aload_n hx hb dX8_readText_21 rfl (lv_at hl 0 rfl) ?_
    refine va_get (D := g) (ci := 6) (v := .ref a1) (C := RX8) (T := TX8) (N := 13) hx hb hts bgX8 hown hK hP 0 rfl rfl 1 (by decide) (hts _ wd5_20) (fun _ h9 => h9) rfl dX8_readText_22 ?_
    refine lv_iconst (v := (nI 0)) hx hb dX8_readText_25 (by decide) ?_
    refine va_iald hx hb hK hP 1 0 rfl rfl (vp_in_nI (n := 0) (by omega) (by omega)) dX8_readText_26 ?_
    refine ti (show (mS tx) (nI 0).toNatClampNeg = nI (tx 0) from by rw [nI_clamp (by omega)]; rfl) ?_
    refine lv_bipush (v := (nI 77)) hx hb dX8_readText_27 (by decide) ?_
    have htx9 := htx 0
    refine lv_icmp_eq (tgt := 34) hx hb dX8_readText_29 (by decide) (fun c_29 => ?_) (fun c_29 => ?_)
    · have c_29 := (nc_eq9 (by omega) (by omega) c_29)
      have hs77 : sgn tx ln 0 = 77 := by unfold sgn; rw [if_pos (by omega)]; exact c_29
      refine lv_aload_n hx hb dX8_readText_34 rfl (lv_at hl 0 rfl) ?_
      refine lv_iconst (v := (nI 1)) hx hb dX8_readText_35 (by decide) ?_
      refine va_put (D := g) (ci := 6) (v := .int (nI 1)) (ty := .int) (C := RX8) (T := TX8) (N := 13) hx hb hts bgX8 tyX8 tyX8_ok nmX8 hown hK hP hD hS 0 rfl rfl 11 (by decide) (hts _ wd10_23) (fun _ h9 => h9) rfl (by decide +kernel) rfl rfl (Nat.le_of_ble_eq_true rfl) dX8_readText_36 (fun H locs hP hD hS => ?_)
      have hP : va_P g vwCl [(mo, .inr (6, [.int (nI rf), .ref a1, .int (nI ln), .ref a2, .ref a3, .ref a4, .int (nI ac), .ref a5, .ref a6, .ref mw, .ref mh, .int (nI 1), .int (nI 0)])), aI cy a1 120 (mS tx), aI cy mw 144 (mS wy), aI cy mh 8 (mS w9), aI cy sa 248 (mS newS)] H := hP
      have hD : va_D A [(mo, .inr (6, [.int (nI rf), .ref a1, .int (nI ln), .ref a2, .ref a3, .ref a4, .int (nI ac), .ref a5, .ref a6, .ref mw, .ref mh, .int (nI 1), .int (nI 0)])), aI cy a1 120 (mS tx), aI cy mw 144 (mS wy), aI cy mh 8 (mS w9), aI cy sa 248 (mS newS)] := hD
      refine lp_rule (σ := (Nat) × (Nat) × (Nat → Nat) × (Nat) × (Nat → Nat) × (Nat → Nat)) (fun x9 H9 locs9 ls9 => va_P g vwCl [(mo, .inr (6, [.int (nI rf), .ref a1, .int (nI ln), .ref a2, .ref a3, .ref a4, .int (nI ac), .ref a5, .ref a6, .ref mw, .ref mh, .int (nI x9.2.1), .int (nI x9.2.2.2.1)])), aI cy a1 120 (mS tx), aI cy mw 144 (mS x9.2.2.2.2.1), aI cy mh 8 (mS x9.2.2.2.2.2), aI cy sa 248 (mS x9.2.2.1)] H9 ∧ va_D A [(mo, .inr (6, [.int (nI rf), .ref a1, .int (nI ln), .ref a2, .ref a3, .ref a4, .int (nI ac), .ref a5, .ref a6, .ref mw, .ref mh, .int (nI x9.2.1), .int (nI x9.2.2.2.1)])), aI cy a1 120 (mS tx), aI cy mw 144 (mS x9.2.2.2.2.1), aI cy mh 8 (mS x9.2.2.2.2.2), aI cy sa 248 (mS x9.2.2.1)] ∧ va_S A s.heap H9 locs9 ∧ lv_has ls9 2 [(0, .ref mo), (1, .ref sa)] ∧ (x9.1 + 1 ≤ x9.2.1) ∧ (x9.2.1 ≤ ln) ∧ (WF (99 * x9.1) x9.2.2.1) ∧ (erF tx ln = if (txF tx ln (120 - x9.1) x9.2.1).1 = true then NN else (txF tx ln (120 - x9.1) x9.2.1).2) ∧ (ldA tx ln = ldF tx ln (120 - x9.1) x9.2.1 x9.2.2.1 x9.2.2.2.1)) (fun x9 => ln - x9.2.1) (0, 1, newS, 0, wy, w9) ⟨hP, hD, hS, lv_sub hl [0, 1] rfl, (Nat.le_refl _), (by dsimp only; omega), WF_newS, (er_77 hs77), (ld_77 hs77)⟩ ?_
      rintro ⟨i, q, τ, k, wy8, w98⟩ H locs ls ⟨hP, hD, hS, hl, hi, hql, hwt, he, hld⟩ ih39
      try dsimp only at hl hi hql hwt he hld hP hD ih39
      refine lv_aload_n hx hb dX8_readText_39 rfl (lv_at hl 0 rfl) ?_
      refine va_get (D := g) (ci := 6) (v := .int (nI q)) (C := RX8) (T := TX8) (N := 13) hx hb hts bgX8 hown hK hP 0 rfl rfl 11 (by decide) (hts _ wd10_23) (fun _ h9 => h9) rfl dX8_readText_40 ?_
      refine lv_aload_n hx hb dX8_readText_43 rfl (lv_at hl 0 rfl) ?_
      refine va_get (D := g) (ci := 6) (v := .int (nI ln)) (C := RX8) (T := TX8) (N := 13) hx hb hts bgX8 hown hK hP 0 rfl rfl 2 (by decide) (hts _ wd7_14) (fun _ h9 => h9) rfl dX8_readText_44 ?_
      refine lv_icmp_ge (tgt := 63) hx hb dX8_readText_47 (by decide) (fun c_47 => ?_) (fun c_47 => ?_)
      · have c_47 := (nc_le (by omega) (by omega) c_47)
        refine lv_iconst (v := (nI NN)) hx hb dX8_readText_63 (by decide) ?_
        have her : erF tx ln = NN := by rw [he, tx_end (show ¬ q < ln by omega)]; rfl
        exact wr_i (τ, q, k, wy8, w98) (by rw [her]) (fun _ => by rw [hld, ld_end (Or.inr (show ¬ q < ln by omega))]; exact ⟨WF_mono hwt (by omega) (by decide), rfl, rfl⟩) hP hS hx hb hr dX8_readText_64 hlk
      · have c_47 := (nc_nle (by omega) (by omega) c_47)
        have hcp := cmdF_p (f := z9) (tx := tx) c_47
        refine lv_aload_n hx hb dX8_readText_50 rfl (lv_at hl 0 rfl) ?_
        refine lv_aload_n hx hb dX8_readText_51 rfl (lv_at hl 1 rfl) ?_
        refine wr_call (wc := [(mo, .inr (6, [.int (nI rf), .ref a1, .int (nI ln), .ref a2, .ref a3, .ref a4, .int (nI ac), .ref a5, .ref a6, .ref mw, .ref mh, .int (nI q), .int (nI k)])), aI cy a1 120 (mS tx), aI cy mw 144 (mS wy8), aI cy mh 8 (mS w98), aI cy sa 248 (mS τ)]) (va_runV (As := [.ref sa]) (rest := []) ⟨hx, hb, hml, hown, hts⟩ (c_X8_readCommand l g cy mo a1 a2 a3 a4 a5 a6 mw mh sa H.size rf ln ac q k tx wy8 w98 τ (99 * i) hwt htx (by omega) c_47) ⟨(cB 1 hts wd11_3 wd1_5 wd11_0 rfl rfl (by decide +kernel) ⟨Nat.le_of_ble_eq_true rfl, Nat.le_of_ble_eq_true rfl⟩), hts _ wd11_1, hts _ wd11_2⟩ (pv hK hP hD hS hA hX [0, 1, 2, 3, 4] rfl rfl 6 0 rfl rfl) rfl rfl hl.1 rfl (lv_room (Nat.le_of_ble_eq_true rfl)) dX8_readText_52 ⟨Nat.zero_le _, Nat.zero_le _⟩) hP hD hS hA [0, 1, 2, 3, 4] rfl rfl (fun _ => (rfl : ([mo, a1, mw, mh, sa] : List Nat) = [mo, a1, mw, mh, sa])) ?_
        rintro ⟨q_52, s1_52, ou1_52, wy1_52, w91_52⟩ H locs ⟨hq_52, ho_52⟩ hP hD hS
        have hP : va_P g vwCl [(mo, .inr (6, [.int (nI rf), .ref a1, .int (nI ln), .ref a2, .ref a3, .ref a4, .int (nI ac), .ref a5, .ref a6, .ref mw, .ref mh, .int (nI q_52.2.1), .int (nI ou1_52)])), aI cy a1 120 (mS tx), aI cy mw 144 (mS wy1_52), aI cy mh 8 (mS w91_52), aI cy sa 248 (mS s1_52)] H := hP
        have hD : va_D A [(mo, .inr (6, [.int (nI rf), .ref a1, .int (nI ln), .ref a2, .ref a3, .ref a4, .int (nI ac), .ref a5, .ref a6, .ref mw, .ref mh, .int (nI q_52.2.1), .int (nI ou1_52)])), aI cy a1 120 (mS tx), aI cy mw 144 (mS wy1_52), aI cy mh 8 (mS w91_52), aI cy sa 248 (mS s1_52)] := hD
        have hq_52 : q_52 = cmdF tx ln q z9 := hq_52
        have ho_52 : q_52.1 = true → s1_52 = doR (sgn tx ln q) q_52.2.2 τ ∧ ou1_52 = k + (if nI (doA (sgn tx ln q) q_52.2.2 τ) = nI NN2 then 1 else 0) := ho_52
        show W _ _ _ _ _ _ _ _ _ _ _ _ _ _ _ (F0 mX 55 ls [.int (bI q_52.1)])
        rw [← hq_52] at hcp
        refine lv_if_ne (tgt := 39) hx hb dX8_readText_55 (by decide) (fun c_55 => ?_) (fun c_55 => ?_)
        · have c_55 := (bI_ne0.mp c_55)
          have c_55 : q_52.1 = true ∧ q < q_52.2.1 := ⟨c_55, hcp.2.2 c_55⟩
          exact ih39 (i + 1, q_52.2.1, s1_52, ou1_52, wy1_52, w91_52) H locs ls ⟨hP, hD, hS, lv_sub hl [0, 1] rfl, (by dsimp only; omega), (by dsimp only; omega), (by dsimp only; rw [(ho_52 c_55.1).1]; exact WF_mono (WF_doR hwt (by omega)) (by omega) (by omega)), (by dsimp only; rw [he, show 120 - i = (120 - (i + 1)) + 1 by omega]; exact (er_step c_47 hq_52).trans (if_pos c_55.1)), (by dsimp only; rw [hld, show 120 - i = (120 - (i + 1)) + 1 by omega, ld_step c_47 hq_52, if_pos c_55.1, ld_k c_55.1, ← (ho_52 c_55.1).1, ← (ho_52 c_55.1).2])⟩ (by first | omega | (dsimp only; omega))
        · have c_55 := (bI_eq0.mp c_55)
          refine lv_aload_n hx hb dX8_readText_58 rfl (lv_at hl 0 rfl) ?_
          refine va_get (D := g) (ci := 6) (v := .int (nI q_52.2.1)) (C := RX8) (T := TX8) (N := 13) hx hb hts bgX8 hown hK hP 0 rfl rfl 11 (by decide) (hts _ wd10_23) (fun _ h9 => h9) rfl dX8_readText_59 ?_
          have her : erF tx ln = q_52.2.1 := by rw [he, show 120 - i = (120 - (i + 1)) + 1 by omega]; exact (er_step c_47 hq_52).trans (if_neg (by rw [c_55]; decide))
          exact wr_i (s1_52, q_52.2.1, ou1_52, wy1_52, w91_52) (by rw [her]) (fun h8 => absurd (show NN ≤ 120 by rw [← h8, her]; omega) (by decide)) hP hS hx hb hr dX8_readText_62 hlk
    · have c_29 := (nc_ne9 (by omega) (by omega) c_29)
      refine lv_iconst (v := (nI 0)) hx hb dX8_readText_32 (by decide) ?_
      have her : erF tx ln = 0 := erF_n (by unfold sgn; rw [if_pos (by omega)]; exact c_29)
      exact wr_i (newS, 0, 0, wy, w9) (by rw [her]) (fun h8 => absurd (her.symm.trans h8) (by decide)) hP hS hx hb hr dX8_readText_33 hlk
set_option maxHeartbeats 4000000 in
set_option maxRecDepth 100000 in
theorem c_X8_errorPosition (l : Launch) (g : va_G) (cy : Nat → ClassId) (ma : Nat → Nat) (sz : Nat) (bd : Nat) (q : Mc) (σ : Nat → Nat) (Hh : Nat → Nat → Nat) (n : Nat) (K : Nat → Nat → Nat) (fl : Nat → Bool) (tx : Nat → Nat) (ln : Nat)  (hI : mI bd q σ Hh n K fl tx ln) : Met l yX8_errorPosition (Cond.code yX8_errorPosition cX8_errorPosition 1 (some .int) :: wsL_law) ({ frames := 9, cells := 0, slots := 0, locals := 216 } : Room) (va_Pc [.ref (ma 0)] (pr g cy (mQ cy ma q σ n fl tx ln) sz)) (wr_Q (fun _ : Mc => (some (.int (nI (erF tx ln))))) (fun q9 : Mc => q9.2.2.2.2.2.2.2 = 0 ∧ mI bd q9 σ Hh n K fl tx ln) (fun q9 : Mc => mQ cy ma q9 σ n fl tx ln) g (va_A (mQ cy ma q σ n fl tx ln) sz)) 0 0 (va_A (mQ cy ma q σ n fl tx ln) sz) := by
  obtain ⟨tr, dy, kp, wy, hp, sp, ou, rf⟩ := q
  obtain ⟨hwf, hn14, hdy, hkp, htx, hln⟩ := hI
  have hdy : ∀ k, k < n → ∀ j, j < 248 → dy (248 * k + j) = Hh k j := hdy
  have hkp : ∀ k, k < 2 → fl k = true → ∀ j, j < 248 → kp (248 * k + j) = K k j := hkp
  refine mt_of (cc := cX8_errorPosition) (maxL := 1) (ret := (some .int)) (by decide +kernel) (Nat.le_of_ble_eq_true rfl) ?_
  intro pX eX s mX below meth cX ls A hx hb hr hml hown hts hlk hin hsz hAe hA hP hD hK hX hl
  subst hsz
  rw [← hAe]
  clear hAe
  have hP : va_P g vwCl [(ma 0, .inr (6, [.int (nI rf), .ref (ma 1), .int (nI ln), .ref (ma 2), .ref (ma 3), .ref (ma 4), .int (nI n), .ref (ma 5), .ref (ma 6), .ref (ma 7), .ref (ma 8), .int (nI sp), .int (nI ou)])), aI cy (ma 1) 120 (mS tx), aI cy (ma 2) 248 (mS σ), aI cy (ma 3) 248 (mS tr), aI cy (ma 4) 3472 (mS dy), aI cy (ma 5) 496 (mS kp), aZ cy (ma 6) 2 (fun j => bI (fl j)), aI cy (ma 7) 144 (mS wy), aI cy (ma 8) 8 (mS hp)] s.heap := hP
  have hD : va_D A [(ma 0, .inr (6, [.int (nI rf), .ref (ma 1), .int (nI ln), .ref (ma 2), .ref (ma 3), .ref (ma 4), .int (nI n), .ref (ma 5), .ref (ma 6), .ref (ma 7), .ref (ma 8), .int (nI sp), .int (nI ou)])), aI cy (ma 1) 120 (mS tx), aI cy (ma 2) 248 (mS σ), aI cy (ma 3) 248 (mS tr), aI cy (ma 4) 3472 (mS dy), aI cy (ma 5) 496 (mS kp), aZ cy (ma 6) 2 (fun j => bI (fl j)), aI cy (ma 7) 144 (mS wy), aI cy (ma 8) 8 (mS hp)] := hD
  have hl : lv_has ls 1 [(0, .ref (ma 0))] := hl
  have hS : va_S A s.heap s.heap [] := va_S.rf
  have hn0 := hwf.n0
  have hn1 := hwf.n1
  have hh2 := hwf.h2
  refine lv_aload_n hx hb dX8_errorPosition_0 rfl (lv_at hl 0 rfl) ?_
  refine lv_iconst (v := (nI 0)) hx hb dX8_errorPosition_1 (by decide) ?_
  refine va_put (D := g) (ci := 6) (v := .int (nI 0)) (ty := .int) (C := RX8) (T := TX8) (N := 13) hx hb hts bgX8 tyX8 tyX8_ok nmX8 hown hK hP hD hS 0 rfl rfl 0 (by decide) (hts _ wd7_22) (fun _ h9 => h9) rfl (by decide +kernel) rfl rfl (Nat.le_of_ble_eq_true rfl) dX8_errorPosition_2 (fun H locs hP hD hS => ?_)
  have hP : va_P g vwCl [(ma 0, .inr (6, [.int (nI 0), .ref (ma 1), .int (nI ln), .ref (ma 2), .ref (ma 3), .ref (ma 4), .int (nI n), .ref (ma 5), .ref (ma 6), .ref (ma 7), .ref (ma 8), .int (nI sp), .int (nI ou)])), aI cy (ma 1) 120 (mS tx), aI cy (ma 2) 248 (mS σ), aI cy (ma 3) 248 (mS tr), aI cy (ma 4) 3472 (mS dy), aI cy (ma 5) 496 (mS kp), aZ cy (ma 6) 2 (fun j => bI (fl j)), aI cy (ma 7) 144 (mS wy), aI cy (ma 8) 8 (mS hp)] H := hP
  have hD : va_D A [(ma 0, .inr (6, [.int (nI 0), .ref (ma 1), .int (nI ln), .ref (ma 2), .ref (ma 3), .ref (ma 4), .int (nI n), .ref (ma 5), .ref (ma 6), .ref (ma 7), .ref (ma 8), .int (nI sp), .int (nI ou)])), aI cy (ma 1) 120 (mS tx), aI cy (ma 2) 248 (mS σ), aI cy (ma 3) 248 (mS tr), aI cy (ma 4) 3472 (mS dy), aI cy (ma 5) 496 (mS kp), aZ cy (ma 6) 2 (fun j => bI (fl j)), aI cy (ma 7) 144 (mS wy), aI cy (ma 8) 8 (mS hp)] := hD
  refine lv_aload_n hx hb dX8_errorPosition_5 rfl (lv_at hl 0 rfl) ?_
  refine lv_aload_n hx hb dX8_errorPosition_6 rfl (lv_at hl 0 rfl) ?_
  refine va_get (D := g) (ci := 6) (v := .ref (ma 3)) (C := RX8) (T := TX8) (N := 13) hx hb hts bgX8 hown hK hP 0 rfl rfl 4 (by decide) (hts _ wd5_22) (fun _ h9 => h9) rfl dX8_errorPosition_7 ?_
  refine wr_call (wc := [(ma 0, .inr (6, [.int (nI 0), .ref (ma 1), .int (nI ln), .ref (ma 2), .ref (ma 3), .ref (ma 4), .int (nI n), .ref (ma 5), .ref (ma 6), .ref (ma 7), .ref (ma 8), .int (nI sp), .int (nI ou)])), aI cy (ma 1) 120 (mS tx), aI cy (ma 7) 144 (mS wy), aI cy (ma 8) 8 (mS hp), aI cy (ma 3) 248 (mS tr)]) (va_runV (As := [.ref (ma 3)]) (rest := []) ⟨hx, hb, hml, hown, hts⟩ (c_X8_readText l g cy (ma 0) (ma 1) (ma 2) (ma 3) (ma 4) (ma 5) (ma 6) (ma 7) (ma 8) (ma 3) H.size 0 ln n sp ou tx wy hp tr htx (by omega)) ⟨(cB 1 hts wd10_21 wd1_5 wd10_18 rfl rfl (by decide +kernel) ⟨Nat.le_of_ble_eq_true rfl, Nat.le_of_ble_eq_true rfl⟩), hts _ wd10_19, hts _ wd10_20⟩ (pv hK hP hD hS hA hX [0, 1, 7, 8, 3] rfl rfl 6 0 rfl rfl) rfl rfl hl.1 rfl (lv_room (Nat.le_of_ble_eq_true rfl)) dX8_errorPosition_10 ⟨Nat.zero_le _, Nat.zero_le _⟩) hP hD hS hA [0, 1, 7, 8, 3] rfl rfl (fun _ => (rfl : ([ma 0, ma 1, ma 7, ma 8, ma 3] : List Nat) = [ma 0, ma 1, ma 7, ma 8, ma 3])) ?_
  rintro ⟨s1_10, sp1_10, ou1_10, wy1_10, w91_10⟩ H locs ho_10 hP hD hS
  have hP : va_P g vwCl [(ma 0, .inr (6, [.int (nI 0), .ref (ma 1), .int (nI ln), .ref (ma 2), .ref (ma 3), .ref (ma 4), .int (nI n), .ref (ma 5), .ref (ma 6), .ref (ma 7), .ref (ma 8), .int (nI sp1_10), .int (nI ou1_10)])), aI cy (ma 1) 120 (mS tx), aI cy (ma 2) 248 (mS σ), aI cy (ma 3) 248 (mS s1_10), aI cy (ma 4) 3472 (mS dy), aI cy (ma 5) 496 (mS kp), aZ cy (ma 6) 2 (fun j => bI (fl j)), aI cy (ma 7) 144 (mS wy1_10), aI cy (ma 8) 8 (mS w91_10)] H := hP
  have hD : va_D A [(ma 0, .inr (6, [.int (nI 0), .ref (ma 1), .int (nI ln), .ref (ma 2), .ref (ma 3), .ref (ma 4), .int (nI n), .ref (ma 5), .ref (ma 6), .ref (ma 7), .ref (ma 8), .int (nI sp1_10), .int (nI ou1_10)])), aI cy (ma 1) 120 (mS tx), aI cy (ma 2) 248 (mS σ), aI cy (ma 3) 248 (mS s1_10), aI cy (ma 4) 3472 (mS dy), aI cy (ma 5) 496 (mS kp), aZ cy (ma 6) 2 (fun j => bI (fl j)), aI cy (ma 7) 144 (mS wy1_10), aI cy (ma 8) 8 (mS w91_10)] := hD
  have ho_10 : erF tx ln = NN → WF 11880 s1_10 ∧ s1_10 = (ldA tx ln).1 ∧ ou1_10 = (ldA tx ln).2 := ho_10
  show W _ _ _ _ _ _ _ _ _ _ _ _ _ _ _ (F0 mX 13 ls [.int (nI (erF tx ln))])
  exact wr_i (s1_10, dy, kp, wy1_10, w91_10, sp1_10, ou1_10, 0) rfl ⟨rfl, ⟨hwf, hn14, hdy, hkp, htx, hln⟩⟩ hP hS hx hb hr dX8_errorPosition_13 hlk
set_option maxHeartbeats 4000000 in
set_option maxRecDepth 100000 in
theorem c_X8_load (l : Launch) (g : va_G) (cy : Nat → ClassId) (ma : Nat → Nat) (sz : Nat) (bd : Nat) (q : Mc) (σ : Nat → Nat) (Hh : Nat → Nat → Nat) (n : Nat) (K : Nat → Nat → Nat) (fl : Nat → Bool) (tx : Nat → Nat) (ln : Nat)  (hI : mI bd q σ Hh n K fl tx ln) (hbl : 11880 ≤ bd) : Met l yX8_load (Cond.code yX8_load cX8_load 1 (some .int) :: wsL_law) ({ frames := 9, cells := 0, slots := 0, locals := 216 } : Room) (va_Pc [.ref (ma 0)] (pr g cy (mQ cy ma q σ n fl tx ln) sz)) (wr_Q (fun _ : Mc => (some (.int (nI (if fLoad tx ln = 0 then (ldA tx ln).2 else 0))))) (fun q9 : Mc => q9.2.2.2.2.2.2.2 = rkm 0 0 1 (fLoad tx ln) ∧ mI bd q9 (if fLoad tx ln = 0 then (ldA tx ln).1 else σ) Hh (if fLoad tx ln = 0 then 0 else n) K (if fLoad tx ln = 0 then (fun _ => false) else fl) tx ln) (fun q9 : Mc => mQ cy ma q9 (if fLoad tx ln = 0 then (ldA tx ln).1 else σ) (if fLoad tx ln = 0 then 0 else n) (if fLoad tx ln = 0 then (fun _ => false) else fl) tx ln) g (va_A (mQ cy ma q σ n fl tx ln) sz)) 0 0 (va_A (mQ cy ma q σ n fl tx ln) sz) := by
  obtain ⟨tr, dy, kp, wy, hp, sp, ou, rf⟩ := q
  obtain ⟨hwf, hn14, hdy, hkp, htx, hln⟩ := hI
  have hdy : ∀ k, k < n → ∀ j, j < 248 → dy (248 * k + j) = Hh k j := hdy
  have hkp : ∀ k, k < 2 → fl k = true → ∀ j, j < 248 → kp (248 * k + j) = K k j := hkp
  refine mt_of (cc := cX8_load) (maxL := 1) (ret := (some .int)) (by decide +kernel) (Nat.le_of_ble_eq_true rfl) ?_
  intro pX eX s mX below meth cX ls A hx hb hr hml hown hts hlk hin hsz hAe hA hP hD hK hX hl
  subst hsz
  rw [← hAe]
  clear hAe
  have hP : va_P g vwCl [(ma 0, .inr (6, [.int (nI rf), .ref (ma 1), .int (nI ln), .ref (ma 2), .ref (ma 3), .ref (ma 4), .int (nI n), .ref (ma 5), .ref (ma 6), .ref (ma 7), .ref (ma 8), .int (nI sp), .int (nI ou)])), aI cy (ma 1) 120 (mS tx), aI cy (ma 2) 248 (mS σ), aI cy (ma 3) 248 (mS tr), aI cy (ma 4) 3472 (mS dy), aI cy (ma 5) 496 (mS kp), aZ cy (ma 6) 2 (fun j => bI (fl j)), aI cy (ma 7) 144 (mS wy), aI cy (ma 8) 8 (mS hp)] s.heap := hP
  have hD : va_D A [(ma 0, .inr (6, [.int (nI rf), .ref (ma 1), .int (nI ln), .ref (ma 2), .ref (ma 3), .ref (ma 4), .int (nI n), .ref (ma 5), .ref (ma 6), .ref (ma 7), .ref (ma 8), .int (nI sp), .int (nI ou)])), aI cy (ma 1) 120 (mS tx), aI cy (ma 2) 248 (mS σ), aI cy (ma 3) 248 (mS tr), aI cy (ma 4) 3472 (mS dy), aI cy (ma 5) 496 (mS kp), aZ cy (ma 6) 2 (fun j => bI (fl j)), aI cy (ma 7) 144 (mS wy), aI cy (ma 8) 8 (mS hp)] := hD
  have hl : lv_has ls 1 [(0, .ref (ma 0))] := hl
  have hS : va_S A s.heap s.heap [] := va_S.rf
  have hn0 := hwf.n0
  have hn1 := hwf.n1
  have hh2 := hwf.h2
  have hfr : fLoad tx ln = 0 ∨ 0 < rkm 0 0 1 (fLoad tx ln) := by unfold fLoad rkm; (repeat' split) <;> omega
  have hfl9 : rkm 0 0 1 (fLoad tx ln) < 10 := by unfold rkm; (repeat' split) <;> omega
  refine lv_aload_n hx hb dX8_load_0 rfl (lv_at hl 0 rfl) ?_
  refine lv_aload_n hx hb dX8_load_1 rfl (lv_at hl 0 rfl) ?_
  refine lv_aload_n hx hb dX8_load_2 rfl (lv_at hl 0 rfl) ?_
  refine va_get (D := g) (ci := 6) (v := .ref (ma 3)) (C := RX8) (T := TX8) (N := 13) hx hb hts bgX8 hown hK hP 0 rfl rfl 4 (by decide) (hts _ wd5_22) (fun _ h9 => h9) rfl dX8_load_3 ?_
  have her9 := erF_lt (tx := tx) hln
  refine wr_call (wc := [(ma 0, .inr (6, [.int (nI rf), .ref (ma 1), .int (nI ln), .ref (ma 2), .ref (ma 3), .ref (ma 4), .int (nI n), .ref (ma 5), .ref (ma 6), .ref (ma 7), .ref (ma 8), .int (nI sp), .int (nI ou)])), aI cy (ma 1) 120 (mS tx), aI cy (ma 7) 144 (mS wy), aI cy (ma 8) 8 (mS hp), aI cy (ma 3) 248 (mS tr)]) (va_runV (As := [.ref (ma 3)]) (rest := [.ref (ma 0)]) ⟨hx, hb, hml, hown, hts⟩ (c_X8_readText l g cy (ma 0) (ma 1) (ma 2) (ma 3) (ma 4) (ma 5) (ma 6) (ma 7) (ma 8) (ma 3) s.heap.size rf ln n sp ou tx wy hp tr htx (by omega)) ⟨(cB 1 hts wd10_21 wd1_5 wd10_18 rfl rfl (by decide +kernel) ⟨Nat.le_of_ble_eq_true rfl, Nat.le_of_ble_eq_true rfl⟩), hts _ wd10_19, hts _ wd10_20⟩ (pv hK hP hD hS hA hX [0, 1, 7, 8, 3] rfl rfl 6 0 rfl rfl) rfl rfl hl.1 rfl (lv_room (Nat.le_of_ble_eq_true rfl)) dX8_load_6 ⟨Nat.zero_le _, Nat.zero_le _⟩) hP hD hS hA [0, 1, 7, 8, 3] rfl rfl (fun _ => (rfl : ([ma 0, ma 1, ma 7, ma 8, ma 3] : List Nat) = [ma 0, ma 1, ma 7, ma 8, ma 3])) ?_
  rintro ⟨s1_6, sp1_6, ou1_6, wy1_6, w91_6⟩ H locs ho_6 hP hD hS
  have hP : va_P g vwCl [(ma 0, .inr (6, [.int (nI rf), .ref (ma 1), .int (nI ln), .ref (ma 2), .ref (ma 3), .ref (ma 4), .int (nI n), .ref (ma 5), .ref (ma 6), .ref (ma 7), .ref (ma 8), .int (nI sp1_6), .int (nI ou1_6)])), aI cy (ma 1) 120 (mS tx), aI cy (ma 2) 248 (mS σ), aI cy (ma 3) 248 (mS s1_6), aI cy (ma 4) 3472 (mS dy), aI cy (ma 5) 496 (mS kp), aZ cy (ma 6) 2 (fun j => bI (fl j)), aI cy (ma 7) 144 (mS wy1_6), aI cy (ma 8) 8 (mS w91_6)] H := hP
  have hD : va_D A [(ma 0, .inr (6, [.int (nI rf), .ref (ma 1), .int (nI ln), .ref (ma 2), .ref (ma 3), .ref (ma 4), .int (nI n), .ref (ma 5), .ref (ma 6), .ref (ma 7), .ref (ma 8), .int (nI sp1_6), .int (nI ou1_6)])), aI cy (ma 1) 120 (mS tx), aI cy (ma 2) 248 (mS σ), aI cy (ma 3) 248 (mS s1_6), aI cy (ma 4) 3472 (mS dy), aI cy (ma 5) 496 (mS kp), aZ cy (ma 6) 2 (fun j => bI (fl j)), aI cy (ma 7) 144 (mS wy1_6), aI cy (ma 8) 8 (mS w91_6)] := hD
  have ho_6 : erF tx ln = NN → WF 11880 s1_6 ∧ s1_6 = (ldA tx ln).1 ∧ ou1_6 = (ldA tx ln).2 := ho_6
  show W _ _ _ _ _ _ _ _ _ _ _ _ _ _ _ (F0 mX 9 ls [.int (nI (erF tx ln)), .ref (ma 0)])
  refine jn_i (pcj := 18) (ls := ls) (st := [.ref (ma 0)]) (fun v9 => v9 = (nI (rkm 0 0 1 (fLoad tx ln)))) ?_ (fun jn18 => ?_)
  · intro v9 hv9
    subst hv9
    refine wr_call (wc := [(ma 0, .inr (6, [.int (nI rf), .ref (ma 1), .int (nI ln), .ref (ma 2), .ref (ma 3), .ref (ma 4), .int (nI n), .ref (ma 5), .ref (ma 6), .ref (ma 7), .ref (ma 8), .int (nI sp1_6), .int (nI ou1_6)]))]) (va_runV (As := [.int (nI (rkm 0 0 1 (fLoad tx ln)))]) (rest := []) ⟨hx, hb, hml, hown, hts⟩ (c_X8_refused l g cy (ma 0) (ma 1) (ma 2) (ma 3) (ma 4) (ma 5) (ma 6) (ma 7) (ma 8) H.size rf ln n sp1_6 ou1_6 (rkm 0 0 1 (fLoad tx ln)) (by omega)) ⟨(cB 1 hts wd7_21 wd1_5 wd7_18 rfl rfl (by decide +kernel) ⟨Nat.le_of_ble_eq_true rfl, Nat.le_of_ble_eq_true rfl⟩), hts _ wd7_19, hts _ wd7_20⟩ (pv hK hP hD hS hA hX [0] rfl rfl 6 0 rfl rfl) rfl rfl hl.1 rfl (lv_room (Nat.le_of_ble_eq_true rfl)) dX8_load_18 ⟨Nat.zero_le _, Nat.zero_le _⟩) hP hD hS hA [0] rfl rfl (fun _ => (rfl : ([ma 0] : List Nat) = [ma 0])) ?_
    rintro _u9 H locs - hP hD hS
    have hP : va_P g vwCl [(ma 0, .inr (6, [.int (nI (rkm 0 0 1 (fLoad tx ln))), .ref (ma 1), .int (nI ln), .ref (ma 2), .ref (ma 3), .ref (ma 4), .int (nI n), .ref (ma 5), .ref (ma 6), .ref (ma 7), .ref (ma 8), .int (nI sp1_6), .int (nI ou1_6)])), aI cy (ma 1) 120 (mS tx), aI cy (ma 2) 248 (mS σ), aI cy (ma 3) 248 (mS s1_6), aI cy (ma 4) 3472 (mS dy), aI cy (ma 5) 496 (mS kp), aZ cy (ma 6) 2 (fun j => bI (fl j)), aI cy (ma 7) 144 (mS wy1_6), aI cy (ma 8) 8 (mS w91_6)] H := hP
    have hD : va_D A [(ma 0, .inr (6, [.int (nI (rkm 0 0 1 (fLoad tx ln))), .ref (ma 1), .int (nI ln), .ref (ma 2), .ref (ma 3), .ref (ma 4), .int (nI n), .ref (ma 5), .ref (ma 6), .ref (ma 7), .ref (ma 8), .int (nI sp1_6), .int (nI ou1_6)])), aI cy (ma 1) 120 (mS tx), aI cy (ma 2) 248 (mS σ), aI cy (ma 3) 248 (mS s1_6), aI cy (ma 4) 3472 (mS dy), aI cy (ma 5) 496 (mS kp), aZ cy (ma 6) 2 (fun j => bI (fl j)), aI cy (ma 7) 144 (mS wy1_6), aI cy (ma 8) 8 (mS w91_6)] := hD
    show W _ _ _ _ _ _ _ _ _ _ _ _ _ _ _ (F0 mX 21 ls [.int (bI (decide (0 < (rkm 0 0 1 (fLoad tx ln)))))])
    refine lv_if_eq (tgt := 26) hx hb dX8_load_21 (by decide) (fun c_21 => ?_) (fun c_21 => ?_)
    · have c_21 := (bI_eq0.mp c_21)
      have c_21 : fLoad tx ln = 0 := hfr.resolve_right (of_decide_eq_false c_21)
      have hen : erF tx ln = NN := by unfold fLoad at c_21; by_cases e : erF tx ln = NN; exact e; rw [if_neg e] at c_21; omega
      obtain ⟨hw9, e91, e92⟩ := ho_6 hen
      refine lv_aload_n hx hb dX8_load_26 rfl (lv_at hl 0 rfl) ?_
      refine va_get (D := g) (ci := 6) (v := .ref (ma 3)) (C := RX8) (T := TX8) (N := 13) hx hb hts bgX8 hown hK hP 0 rfl rfl 4 (by decide) (hts _ wd5_22) (fun _ h9 => h9) rfl dX8_load_27 ?_
      refine lv_iconst (v := (nI 0)) hx hb dX8_load_30 (by decide) ?_
      refine lv_aload_n hx hb dX8_load_31 rfl (lv_at hl 0 rfl) ?_
      refine va_get (D := g) (ci := 6) (v := .ref (ma 2)) (C := RX8) (T := TX8) (N := 13) hx hb hts bgX8 hown hK hP 0 rfl rfl 3 (by decide) (hts _ wd5_21) (fun _ h9 => h9) rfl dX8_load_32 ?_
      refine lv_iconst (v := (nI 0)) hx hb dX8_load_35 (by decide) ?_
      refine wr_call (wc := [aI cy (ma 3) 248 (mS s1_6), aI cy (ma 2) 248 (mS σ)]) (va_runS (As := [.ref (ma 3), .int (nI 0), .ref (ma 2), .int (nI 0)]) (rest := []) ⟨hx, hb, hml, hown, hts⟩ (c_X8_copyState l g cy (ma 3) (ma 2) H.size 248 248 s1_6 σ 0 0 (by omega) (by omega) (by omega) (by omega)) ⟨(cB 4 hts wd23_3 wd1_5 wd23_1 rfl rfl (by decide +kernel) ⟨Nat.le_of_ble_eq_true rfl, Nat.le_of_ble_eq_true rfl⟩), hts _ wd23_2⟩ (ps hK hP hD hS hA hX [3, 2] rfl rfl) rfl rfl hl.1 rfl (lv_room (Nat.le_of_ble_eq_true rfl)) dX8_load_36 ⟨Nat.zero_le _, Nat.zero_le _⟩) hP hD hS hA [3, 2] rfl rfl (fun _ => (rfl : ([ma 3, ma 2] : List Nat) = [ma 3, ma 2])) ?_
      rintro _u9 H locs - hP hD hS
      have hP : va_P g vwCl [(ma 0, .inr (6, [.int (nI (rkm 0 0 1 (fLoad tx ln))), .ref (ma 1), .int (nI ln), .ref (ma 2), .ref (ma 3), .ref (ma 4), .int (nI n), .ref (ma 5), .ref (ma 6), .ref (ma 7), .ref (ma 8), .int (nI sp1_6), .int (nI ou1_6)])), aI cy (ma 1) 120 (mS tx), aI cy (ma 2) 248 (mS (cpS s1_6 σ 0 0 248)), aI cy (ma 3) 248 (mS s1_6), aI cy (ma 4) 3472 (mS dy), aI cy (ma 5) 496 (mS kp), aZ cy (ma 6) 2 (fun j => bI (fl j)), aI cy (ma 7) 144 (mS wy1_6), aI cy (ma 8) 8 (mS w91_6)] H := hP
      have hD : va_D A [(ma 0, .inr (6, [.int (nI (rkm 0 0 1 (fLoad tx ln))), .ref (ma 1), .int (nI ln), .ref (ma 2), .ref (ma 3), .ref (ma 4), .int (nI n), .ref (ma 5), .ref (ma 6), .ref (ma 7), .ref (ma 8), .int (nI sp1_6), .int (nI ou1_6)])), aI cy (ma 1) 120 (mS tx), aI cy (ma 2) 248 (mS (cpS s1_6 σ 0 0 248)), aI cy (ma 3) 248 (mS s1_6), aI cy (ma 4) 3472 (mS dy), aI cy (ma 5) 496 (mS kp), aZ cy (ma 6) 2 (fun j => bI (fl j)), aI cy (ma 7) 144 (mS wy1_6), aI cy (ma 8) 8 (mS w91_6)] := hD
      show W _ _ _ _ _ _ _ _ _ _ _ _ _ _ _ (F0 mX 39 ls [])
      obtain ⟨hP, hD⟩ := arr_c (mS (ldA tx ln).1) hP hD 2 rfl (fun j hj => by rw [cp_00 hj, e91])
      have hP : va_P g vwCl [(ma 0, .inr (6, [.int (nI (rkm 0 0 1 (fLoad tx ln))), .ref (ma 1), .int (nI ln), .ref (ma 2), .ref (ma 3), .ref (ma 4), .int (nI n), .ref (ma 5), .ref (ma 6), .ref (ma 7), .ref (ma 8), .int (nI sp1_6), .int (nI ou1_6)])), aI cy (ma 1) 120 (mS tx), aI cy (ma 2) 248 (mS (ldA tx ln).1), aI cy (ma 3) 248 (mS s1_6), aI cy (ma 4) 3472 (mS dy), aI cy (ma 5) 496 (mS kp), aZ cy (ma 6) 2 (fun j => bI (fl j)), aI cy (ma 7) 144 (mS wy1_6), aI cy (ma 8) 8 (mS w91_6)] H := hP
      have hD : va_D A [(ma 0, .inr (6, [.int (nI (rkm 0 0 1 (fLoad tx ln))), .ref (ma 1), .int (nI ln), .ref (ma 2), .ref (ma 3), .ref (ma 4), .int (nI n), .ref (ma 5), .ref (ma 6), .ref (ma 7), .ref (ma 8), .int (nI sp1_6), .int (nI ou1_6)])), aI cy (ma 1) 120 (mS tx), aI cy (ma 2) 248 (mS (ldA tx ln).1), aI cy (ma 3) 248 (mS s1_6), aI cy (ma 4) 3472 (mS dy), aI cy (ma 5) 496 (mS kp), aZ cy (ma 6) 2 (fun j => bI (fl j)), aI cy (ma 7) 144 (mS wy1_6), aI cy (ma 8) 8 (mS w91_6)] := hD
      refine lv_aload_n hx hb dX8_load_39 rfl (lv_at hl 0 rfl) ?_
      refine lv_iconst (v := (nI 0)) hx hb dX8_load_40 (by decide) ?_
      refine va_put (D := g) (ci := 6) (v := .int (nI 0)) (ty := .int) (C := RX8) (T := TX8) (N := 13) hx hb hts bgX8 tyX8 tyX8_ok nmX8 hown hK hP hD hS 0 rfl rfl 6 (by decide) (hts _ wd23_0) (fun _ h9 => h9) rfl (by decide +kernel) rfl rfl (Nat.le_of_ble_eq_true rfl) dX8_load_41 (fun H locs hP hD hS => ?_)
      have hP : va_P g vwCl [(ma 0, .inr (6, [.int (nI (rkm 0 0 1 (fLoad tx ln))), .ref (ma 1), .int (nI ln), .ref (ma 2), .ref (ma 3), .ref (ma 4), .int (nI 0), .ref (ma 5), .ref (ma 6), .ref (ma 7), .ref (ma 8), .int (nI sp1_6), .int (nI ou1_6)])), aI cy (ma 1) 120 (mS tx), aI cy (ma 2) 248 (mS (ldA tx ln).1), aI cy (ma 3) 248 (mS s1_6), aI cy (ma 4) 3472 (mS dy), aI cy (ma 5) 496 (mS kp), aZ cy (ma 6) 2 (fun j => bI (fl j)), aI cy (ma 7) 144 (mS wy1_6), aI cy (ma 8) 8 (mS w91_6)] H := hP
      have hD : va_D A [(ma 0, .inr (6, [.int (nI (rkm 0 0 1 (fLoad tx ln))), .ref (ma 1), .int (nI ln), .ref (ma 2), .ref (ma 3), .ref (ma 4), .int (nI 0), .ref (ma 5), .ref (ma 6), .ref (ma 7), .ref (ma 8), .int (nI sp1_6), .int (nI ou1_6)])), aI cy (ma 1) 120 (mS tx), aI cy (ma 2) 248 (mS (ldA tx ln).1), aI cy (ma 3) 248 (mS s1_6), aI cy (ma 4) 3472 (mS dy), aI cy (ma 5) 496 (mS kp), aZ cy (ma 6) 2 (fun j => bI (fl j)), aI cy (ma 7) 144 (mS wy1_6), aI cy (ma 8) 8 (mS w91_6)] := hD
      refine lv_aload_n hx hb dX8_load_44 rfl (lv_at hl 0 rfl) ?_
      refine va_get (D := g) (ci := 6) (v := .ref (ma 6)) (C := RX8) (T := TX8) (N := 13) hx hb hts bgX8 hown hK hP 0 rfl rfl 8 (by decide) (hts _ wd6_1) (fun _ h9 => h9) rfl dX8_load_45 ?_
      refine lv_iconst (v := (nI 0)) hx hb dX8_load_48 (by decide) ?_
      refine lv_iconst (v := (nI 0)) hx hb dX8_load_49 (by decide) ?_
      refine ti (show (nI 0) = (bI false) from rfl) ?_
      refine va_zast hx hb hK hP hD hS 6 1 rfl rfl (vp_in_nI (n := 0) (by omega) (by omega)) dX8_load_50 (fun H locs hP hD hS => ?_)
      rw [nI_clamp (n := 0) (by omega)] at hP hD
      rw [bI_vpnar] at hP hD
      have hP : va_P g vwCl [(ma 0, .inr (6, [.int (nI (rkm 0 0 1 (fLoad tx ln))), .ref (ma 1), .int (nI ln), .ref (ma 2), .ref (ma 3), .ref (ma 4), .int (nI 0), .ref (ma 5), .ref (ma 6), .ref (ma 7), .ref (ma 8), .int (nI sp1_6), .int (nI ou1_6)])), aI cy (ma 1) 120 (mS tx), aI cy (ma 2) 248 (mS (ldA tx ln).1), aI cy (ma 3) 248 (mS s1_6), aI cy (ma 4) 3472 (mS dy), aI cy (ma 5) 496 (mS kp), aZ cy (ma 6) 2 (upd (fun j => bI (fl j)) 0 (bI false)), aI cy (ma 7) 144 (mS wy1_6), aI cy (ma 8) 8 (mS w91_6)] H := hP
      have hD : va_D A [(ma 0, .inr (6, [.int (nI (rkm 0 0 1 (fLoad tx ln))), .ref (ma 1), .int (nI ln), .ref (ma 2), .ref (ma 3), .ref (ma 4), .int (nI 0), .ref (ma 5), .ref (ma 6), .ref (ma 7), .ref (ma 8), .int (nI sp1_6), .int (nI ou1_6)])), aI cy (ma 1) 120 (mS tx), aI cy (ma 2) 248 (mS (ldA tx ln).1), aI cy (ma 3) 248 (mS s1_6), aI cy (ma 4) 3472 (mS dy), aI cy (ma 5) 496 (mS kp), aZ cy (ma 6) 2 (upd (fun j => bI (fl j)) 0 (bI false)), aI cy (ma 7) 144 (mS wy1_6), aI cy (ma 8) 8 (mS w91_6)] := hD
      refine lv_aload_n hx hb dX8_load_51 rfl (lv_at hl 0 rfl) ?_
      refine va_get (D := g) (ci := 6) (v := .ref (ma 6)) (C := RX8) (T := TX8) (N := 13) hx hb hts bgX8 hown hK hP 0 rfl rfl 8 (by decide) (hts _ wd6_1) (fun _ h9 => h9) rfl dX8_load_52 ?_
      refine lv_iconst (v := (nI 1)) hx hb dX8_load_55 (by decide) ?_
      refine lv_iconst (v := (nI 0)) hx hb dX8_load_56 (by decide) ?_
      refine ti (show (nI 0) = (bI false) from rfl) ?_
      refine va_zast hx hb hK hP hD hS 6 1 rfl rfl (vp_in_nI (n := 1) (by omega) (by omega)) dX8_load_57 (fun H locs hP hD hS => ?_)
      rw [nI_clamp (n := 1) (by omega)] at hP hD
      rw [bI_vpnar] at hP hD
      have hP : va_P g vwCl [(ma 0, .inr (6, [.int (nI (rkm 0 0 1 (fLoad tx ln))), .ref (ma 1), .int (nI ln), .ref (ma 2), .ref (ma 3), .ref (ma 4), .int (nI 0), .ref (ma 5), .ref (ma 6), .ref (ma 7), .ref (ma 8), .int (nI sp1_6), .int (nI ou1_6)])), aI cy (ma 1) 120 (mS tx), aI cy (ma 2) 248 (mS (ldA tx ln).1), aI cy (ma 3) 248 (mS s1_6), aI cy (ma 4) 3472 (mS dy), aI cy (ma 5) 496 (mS kp), aZ cy (ma 6) 2 (upd (upd (fun j => bI (fl j)) 0 (bI false)) 1 (bI false)), aI cy (ma 7) 144 (mS wy1_6), aI cy (ma 8) 8 (mS w91_6)] H := hP
      have hD : va_D A [(ma 0, .inr (6, [.int (nI (rkm 0 0 1 (fLoad tx ln))), .ref (ma 1), .int (nI ln), .ref (ma 2), .ref (ma 3), .ref (ma 4), .int (nI 0), .ref (ma 5), .ref (ma 6), .ref (ma 7), .ref (ma 8), .int (nI sp1_6), .int (nI ou1_6)])), aI cy (ma 1) 120 (mS tx), aI cy (ma 2) 248 (mS (ldA tx ln).1), aI cy (ma 3) 248 (mS s1_6), aI cy (ma 4) 3472 (mS dy), aI cy (ma 5) 496 (mS kp), aZ cy (ma 6) 2 (upd (upd (fun j => bI (fl j)) 0 (bI false)) 1 (bI false)), aI cy (ma 7) 144 (mS wy1_6), aI cy (ma 8) 8 (mS w91_6)] := hD
      obtain ⟨hP, hD⟩ := arr_c (fun j => bI ((fun _ => false) j)) hP hD 6 rfl (fun j hj => by rcases (show j = 0 ∨ j = 1 by omega) with rfl | rfl <;> simp [upd])
      have hP : va_P g vwCl [(ma 0, .inr (6, [.int (nI (rkm 0 0 1 (fLoad tx ln))), .ref (ma 1), .int (nI ln), .ref (ma 2), .ref (ma 3), .ref (ma 4), .int (nI 0), .ref (ma 5), .ref (ma 6), .ref (ma 7), .ref (ma 8), .int (nI sp1_6), .int (nI ou1_6)])), aI cy (ma 1) 120 (mS tx), aI cy (ma 2) 248 (mS (ldA tx ln).1), aI cy (ma 3) 248 (mS s1_6), aI cy (ma 4) 3472 (mS dy), aI cy (ma 5) 496 (mS kp), aZ cy (ma 6) 2 (fun j => bI ((fun _ => false) j)), aI cy (ma 7) 144 (mS wy1_6), aI cy (ma 8) 8 (mS w91_6)] H := hP
      have hD : va_D A [(ma 0, .inr (6, [.int (nI (rkm 0 0 1 (fLoad tx ln))), .ref (ma 1), .int (nI ln), .ref (ma 2), .ref (ma 3), .ref (ma 4), .int (nI 0), .ref (ma 5), .ref (ma 6), .ref (ma 7), .ref (ma 8), .int (nI sp1_6), .int (nI ou1_6)])), aI cy (ma 1) 120 (mS tx), aI cy (ma 2) 248 (mS (ldA tx ln).1), aI cy (ma 3) 248 (mS s1_6), aI cy (ma 4) 3472 (mS dy), aI cy (ma 5) 496 (mS kp), aZ cy (ma 6) 2 (fun j => bI ((fun _ => false) j)), aI cy (ma 7) 144 (mS wy1_6), aI cy (ma 8) 8 (mS w91_6)] := hD
      refine lv_aload_n hx hb dX8_load_58 rfl (lv_at hl 0 rfl) ?_
      refine va_get (D := g) (ci := 6) (v := .int (nI ou1_6)) (C := RX8) (T := TX8) (N := 13) hx hb hts bgX8 hown hK hP 0 rfl rfl 12 (by decide) (hts _ wd10_22) (fun _ h9 => h9) rfl dX8_load_59 ?_
      exact wr_i (s1_6, dy, kp, wy1_6, w91_6, sp1_6, ou1_6, rkm 0 0 1 (fLoad tx ln)) (by rw [if_pos c_21, e92]) ⟨rfl, (by simp only [if_pos c_21]; exact ⟨(by rw [← e91]; exact WF_mono hw9 hbl hwf.1), (Nat.zero_le _), (fun k hk => absurd hk (Nat.not_lt_zero _)), (fun k _ h8 => Bool.noConfusion h8), htx, hln⟩)⟩ (by simp only [if_pos c_21]; exact hP) hS hx hb hr dX8_load_62 hlk
    · have c_21 := (bI_ne0.mp c_21)
      have c_21 : ¬ fLoad tx ln = 0 := fun e => by rw [e] at c_21; exact absurd c_21 (by decide)
      refine lv_iconst (v := (nI 0)) hx hb dX8_load_24 (by decide) ?_
      exact wr_i (s1_6, dy, kp, wy1_6, w91_6, sp1_6, ou1_6, rkm 0 0 1 (fLoad tx ln)) (by rw [if_neg c_21]) ⟨rfl, (by simp only [if_neg c_21]; exact ⟨hwf, hn14, hdy, hkp, htx, hln⟩)⟩ (by simp only [if_neg c_21]; exact hP) hS hx hb hr dX8_load_25 hlk
  · skip
    refine lv_iconst (v := (nI NN)) hx hb dX8_load_9 (by decide) ?_
    refine lv_icmp_ne (tgt := 17) hx hb dX8_load_10 (by decide) (fun c_10 => ?_) (fun c_10 => ?_)
    · have c_10 := (nc_ne9 (by omega) (by decide) c_10)
      refine lv_iconst (v := (nI 1)) hx hb dX8_load_17 (by decide) ?_
      exact jn18 _ (congrArg nI (by simp [rkm, fLoad, c_10]))
    · have c_10 := (nc_eq9 (by omega) (by decide) c_10)
      refine lv_iconst (v := (nI 0)) hx hb dX8_load_13 (by decide) ?_
      refine lv_goto (tgt := 18) hx hb dX8_load_14 (by decide) ?_
      exact jn18 _ (congrArg nI (by simp [rkm, fLoad, c_10]))
