/-! ROWS AND QUARTER, WRITTEN -/
theorem upd_s {f : Nat → Int32} {k : Nat} {v : Int32} : upd f k v k = v := by simp [upd]
theorem upd_d {f : Nat → Int32} {k j : Nat} {v : Int32} (h : j ≠ k) : upd f k v j = f j := by simp [upd, h]
/-- the other fields of a row, the other rows -/
theorem upd_f {f : Nat → Int32} {r w i j : Nat} {v : Int32} (h : j ≠ i) : upd f (r * w + i) v (r * w + j) = f (r * w + j) := upd_d (by omega)
theorem row_ne {r r' w i j : Nat} (h : r' ≠ r) (hi : i < w) (hj : j < w) : r' * w + j ≠ r * w + i := by
  intro e
  apply h
  have h1 : (r' * w + j) / w = r' := by rw [Nat.mul_comm, Nat.mul_add_div (by omega), Nat.div_eq_of_lt hj]; rfl
  have h2 : (r * w + i) / w = r := by rw [Nat.mul_comm, Nat.mul_add_div (by omega), Nat.div_eq_of_lt hi]; rfl
  rw [← h1, e, h2]
theorem upd_r {f : Nat → Int32} {r r' w i j : Nat} {v : Int32} (h : r' ≠ r) (hi : i < w) (hj : j < w) : upd f (r * w + i) v (r' * w + j) = f (r' * w + j) := upd_d (row_ne h hi hj)
/-- i zeros from a place on -/
def zrI (f : Nat → Int32) (z i : Nat) : Nat → Int32 := fun k => if z ≤ k ∧ k < z + i then 0 else f k
theorem zrI_0 {f : Nat → Int32} {z : Nat} : zrI f z 0 = f := by
  funext k
  unfold zrI
  rw [if_neg (by omega)]
theorem zrI_s {f : Nat → Int32} {z i : Nat} : upd (zrI f z i) (z + i) (nI 0) = zrI f z (i + 1) := by
  funext k
  by_cases h : k = z + i
  · subst h
    rw [upd_s]
    unfold zrI
    rw [if_pos (by omega)]
    rfl
  · rw [upd_d h]
    unfold zrI
    have h2 : (z ≤ k ∧ k < z + (i + 1)) ↔ (z ≤ k ∧ k < z + i) := by omega
    simp only [h2]
theorem zrI_n {f : Nat → Int32} {z i k : Nat} (h : k < z ∨ z + i ≤ k) : zrI f z i k = f k := by
  unfold zrI
  rw [if_neg (by omega)]
theorem cpy_all {f g : Nat → Int32} {n : Nat} : ∀ j, j < n → va_cpy f g 0 0 n j = f j := fun j hj => by simp [va_cpy, hj]
theorem min_self (x : Int32) : (if x < x then x else x) = x := by simp
/-- a street closed or opened -/
def clS (σ : Nat → Nat) (k : Nat) (on : Bool) : Nat → Nat := up σ (spl k) (if on then 1 else 0)
theorem clS_at {σ : Nat → Nat} {k j : Nat} {on : Bool} (hk : k < 17) (hj : j < 17) : clS σ k on (spl j) = if j = k then (if on then 1 else 0) else σ (spl j) := by
  unfold clS
  by_cases h : j = k
  · subst h; rw [up_s, if_pos rfl]
  · rw [up_n (fun e => h (spl_inj j hj k hk e)), if_neg h]
theorem cl_on {σ : Nat → Nat} {k : Nat} (hk : k < 17) : cmk σ ||| 2 ^ k = cmk (clS σ k true) := by
  unfold cmk
  apply mk_ext (Nat.or_lt_two_pow (mk_lt _ _) (Nat.pow_lt_pow_right (by decide) hk))
  intro j hj
  rw [Nat.testBit_or, mk_bit, Nat.testBit_two_pow, clS_at hk hj]
  by_cases h : j = k
  · subst h; simp
  · simp [h, hj, Ne.symm h]
theorem cl_off {σ : Nat → Nat} {k : Nat} (hk : k < 17) : nI (cmk σ &&& (2 ^ k ^^^ NN)) = nI (cmk (clS σ k false)) := by
  unfold cmk
  rw [nb_butN hk (by omega)]
  apply congrArg
  apply mk_congr
  intro j hj
  rw [clS_at hk hj]
  by_cases h : j = k
  · subst h; simp
  · simp [h]
theorem adj_cl {σ τ : Nat → Nat} (h : cmk τ = cmk σ) {a b : Nat} (ha : a < 12) (hb : b < 12) : adj τ a b = adj σ a b := by
  by_cases hn : stp a b = NN
  · simp [adj, hn]
  · obtain ⟨k, g1, ⟨g2, g3⟩ | ⟨g2, g3⟩⟩ := spl_all a ha b hb hn
    · rw [← g2, ← g3, adj_k (cmk_RC τ) g1, adj_k (cmk_RC σ) g1, h]
    · rw [← g2, ← g3, adj_comm τ, adj_comm σ, adj_k (cmk_RC τ) g1, adj_k (cmk_RC σ) g1, h]
theorem fwk_congr {m n k : Nat} {w v : Nat → Nat} (h1 : w (12 * (n / 12) + m) = v (12 * (n / 12) + m)) (h2 : w (12 * m + n % 12) = v (12 * m + n % 12)) (h3 : w n = v n) (h4 : w k = v k) : fwk m n w k = fwk m n v k := by
  unfold fwk
  rw [h1, h2, h3]
  by_cases e : k = n
  · subst e; rw [up_s, up_s]
  · rw [up_n e, up_n e]; exact h4
/-- ways are by the closed streets alone -/
theorem D_cl {σ τ : Nat → Nat} (h : cmk τ = cmk σ) : ∀ k, k < 144 → D τ k = D σ k := by
  have e0 : ∀ k, k < 144 → fw0 τ k = fw0 σ k := fun k hk => by
    unfold fw0
    rw [adj_cl h (by omega) (Nat.mod_lt _ (by decide))]
  have step : ∀ (m : Nat), m < 12 → ∀ (w v : Nat → Nat), (∀ k, k < 144 → w k = v k) → ∀ n, n ≤ 144 → ∀ k, k < 144 → lf (fun k w => fwk m k w) n w k = lf (fun k w => fwk m k w) n v k := by
    intro m hm w v hw n
    induction n with
    | zero => intro _ k hk; exact hw k hk
    | succ n ih =>
      intro hn k hk
      have ih := ih (by omega)
      exact fwk_congr (ih _ (by omega)) (ih _ (by omega)) (ih n (by omega)) (ih k hk)
  have all : ∀ n, n ≤ 12 → ∀ k, k < 144 → lf (fun m w => fwm m w) n (fw0 τ) k = lf (fun m w => fwm m w) n (fw0 σ) k := by
    intro n
    induction n with
    | zero => intro _; exact e0
    | succ n ih =>
      intro hn k hk
      rw [lf_s, lf_s]
      exact step n (by omega) _ _ (ih (by omega)) 144 (Nat.le_refl _) k hk
  exact all 12 (Nat.le_refl _)
theorem wv_cl {σ τ : Nat → Nat} (h : cmk τ = cmk σ) : ∀ k, k < 144 → wv σ k = wv τ k := fun k hk => by
  unfold wv
  rw [D_cl h k hk]
/-- which street joins two corners -/
def mtc (k a b : Nat) : Bool := (decide (eA k = a) && decide (eB k = b)) || (decide (eA k = b) && decide (eB k = a))
def sbt (a b : Nat) : Nat → Nat
  | 0 => NN
  | k + 1 => if mtc k a b then k else sbt a b k
theorem sbt_hit : ∀ k, k < 17 → ∀ a, a < 12 → ∀ b, b < 12 → mtc k a b = true → sbt a b 17 = k := by decide +kernel
theorem sbt_no {a b : Nat} : ∀ n, (∀ k, k < n → mtc k a b = false) → sbt a b n = NN
  | 0, _ => rfl
  | n + 1, h => by
    unfold sbt
    rw [h n (by omega)]
    exact sbt_no n (fun k hk => h k (by omega))
theorem sbt_stp : ∀ a, a < 12 → ∀ b, b < 12 → (stp a b = NN ∧ sbt a b 17 = NN) ∨ (stp a b ≠ NN ∧ sbt a b 17 < 17 ∧ spl (sbt a b 17) = stp a b) := by decide +kernel
theorem mtc_no {k a b : Nat} (h : ¬ ((endsV (2 * k) = a ∧ endsV (2 * k + 1) = b) ∨ (endsV (2 * k) = b ∧ endsV (2 * k + 1) = a))) : mtc k a b = false := by
  unfold mtc eA eB
  simpa using h
theorem mtc_yes {k a b : Nat} (h : (endsV (2 * k) = a ∧ endsV (2 * k + 1) = b) ∨ (endsV (2 * k) = b ∧ endsV (2 * k + 1) = a)) : mtc k a b = true := by
  unfold mtc eA eB
  simpa using h

set_option maxHeartbeats 4000000 in
set_option maxRecDepth 100000 in
theorem c_X3_put (l : Launch) (g : va_G) (cy : Nat → ClassId) (h hc : Nat) (sz : Nat) (mo : Nat) (wi : Nat) (nn : Nat) (cf : Nat → Int32) (cnt : Nat) (row : Int32) (fd : Nat) (v : Int32) (hmo : mo ≤ 20) (hwi : wi ≤ 11) (hnn : mo * wi = nn) (hnn2 : nn ≤ 220) (hcnt : cnt ≤ mo) (hfd : fd < wi) : Met l yX3_put (Cond.code yX3_put cX3_put 5 none :: wsL_law) ({ frames := 0, cells := 0, slots := 0, locals := 0 } : Room) (va_Pc [.ref h, .int row, .int (nI fd), .int v] (pr g cy [(h, .inr (3, [.int (nI mo), .int (nI wi), .ref hc, .int (nI cnt)])), aI cy hc nn cf] sz)) (wr_Q (fun _ : Unit => none) (fun _ : Unit => True) (fun _ : Unit => [(h, .inr (3, [.int (nI mo), .int (nI wi), .ref hc, .int (nI cnt)])), aI cy hc nn (putR cf wi cnt row fd v)]) g (va_A [(h, .inr (3, [.int (nI mo), .int (nI wi), .ref hc, .int (nI cnt)])), aI cy hc nn cf] sz)) 0 0 (va_A [(h, .inr (3, [.int (nI mo), .int (nI wi), .ref hc, .int (nI cnt)])), aI cy hc nn cf] sz) := by
  refine mt_of (cc := cX3_put) (maxL := 5) (ret := none) (by decide +kernel) (Nat.le_of_ble_eq_true rfl) ?_
  intro pX eX s mX below meth cX ls A hx hb hr hml hown hts hlk hin hsz hAe hA hP hD hK hX hl
  subst hsz
  rw [← hAe]
  clear hAe
  have hl : lv_has ls 5 [(0, .ref h), (1, .int row), (2, .int (nI fd)), (3, .int v)] := hl
  have hS : va_S A s.heap s.heap [] := va_S.rf
  refine lv_iload_n hx hb dX3_put_0 rfl (lv_at hl 1 rfl) ?_
  refine lv_aload_n hx hb dX3_put_1 rfl (lv_at hl 0 rfl) ?_
  refine va_get (D := g) (ci := 3) (v := .int (nI wi)) (C := RX3) (T := TX3) (N := 4) hx hb hts bgX3 hown hK hP 0 rfl rfl 1 (by decide) (hts _ wd3_3) (fun _ h9 => h9) rfl dX3_put_2 ?_
  refine lv_imul hx hb dX3_put_5 ?_
  refine lv_iload_n hx hb dX3_put_6 rfl (lv_at hl 2 rfl) ?_
  refine lv_iadd hx hb dX3_put_7 ?_
  refine lv_istore (lv' := [(4, .int ((row * (nI wi)) + (nI fd))), (0, .ref h), (1, .int row), (2, .int (nI fd)), (3, .int v)]) hx hb dX3_put_8 hl (by decide) rfl (fun ls hl => ?_)
  refine lv_iload_n hx hb dX3_put_10 rfl (lv_at hl 2 rfl) ?_
  refine lv_if_lt (tgt := 45) hx hb dX3_put_11 (by decide) (fun c_11 => ?_) (fun c_11 => ?_)
  · skip
    rw [show cf = (putR cf wi cnt row fd v) from (by simp [putR, c_11])] at hP hD
    exact wr_v () rfl trivial hP hS hx hb hr dX3_put_45 hlk
  · skip
    refine lv_iload_n hx hb dX3_put_14 rfl (lv_at hl 2 rfl) ?_
    refine lv_aload_n hx hb dX3_put_15 rfl (lv_at hl 1 rfl) ?_
    refine va_get (D := g) (ci := 3) (v := .int (nI cnt)) (C := RX3) (T := TX3) (N := 4) hx hb hts bgX3 hown hK hP 0 rfl rfl 3 (by decide) (hts _ wd5_10) (fun _ h9 => h9) rfl dX3_put_16 ?_
    refine lv_icmp_ge (tgt := 45) hx hb dX3_put_19 (by decide) (fun c_19 => ?_) (fun c_19 => ?_)
    · skip
      rw [show cf = (putR cf wi cnt row fd v) from (by simp [putR, c_11, c_19])] at hP hD
      exact wr_v () rfl trivial hP hS hx hb hr dX3_put_45 hlk
    · skip
      obtain ⟨j, hj, rfl⟩ := rowN (by omega) c_11 c_19
      have hix := ix_lt hj hcnt hfd hnn
      refine lv_iload hx hb dX3_put_22 (lv_at hl 0 rfl) ?_
      refine ti (show (((nI j) * (nI wi)) + (nI fd)) = (nI (j * wi + fd)) from (by rw [pk_mul, nI_add])) ?_
      refine lv_if_lt (tgt := 45) hx hb dX3_put_24 (by decide) (fun c_24 => ?_) (fun c_24 => ?_)
      · exact absurd c_24 (nI_pos (by omega))
      · skip
        refine lv_iload hx hb dX3_put_27 (lv_at hl 0 rfl) ?_
        refine ti (show (((nI j) * (nI wi)) + (nI fd)) = (nI (j * wi + fd)) from (by rw [pk_mul, nI_add])) ?_
        refine lv_aload_n hx hb dX3_put_29 rfl (lv_at hl 1 rfl) ?_
        refine va_get (D := g) (ci := 3) (v := .ref hc) (C := RX3) (T := TX3) (N := 4) hx hb hts bgX3 hown hK hP 0 rfl rfl 2 (by decide) (hts _ wd3_8) (fun _ h9 => h9) rfl dX3_put_30 ?_
        refine va_alen (v := nI nn) hx hb hK hP 1 0 rfl rfl rfl dX3_put_33 ?_
        refine lv_icmp_ge (tgt := 45) hx hb dX3_put_34 (by decide) (fun c_34 => ?_) (fun c_34 => ?_)
        · have c_34 := (nc_le (by omega) (by omega) c_34)
          omega
        · have c_34 := (nc_nle (by omega) (by omega) c_34)
          refine lv_aload_n hx hb dX3_put_37 rfl (lv_at hl 1 rfl) ?_
          refine va_get (D := g) (ci := 3) (v := .ref hc) (C := RX3) (T := TX3) (N := 4) hx hb hts bgX3 hown hK hP 0 rfl rfl 2 (by decide) (hts _ wd3_8) (fun _ h9 => h9) rfl dX3_put_38 ?_
          refine lv_iload hx hb dX3_put_41 (lv_at hl 0 rfl) ?_
          refine ti (show (((nI j) * (nI wi)) + (nI fd)) = (nI (j * wi + fd)) from (by rw [pk_mul, nI_add])) ?_
          refine lv_iload_n hx hb dX3_put_43 rfl (lv_at hl 4 rfl) ?_
          refine va_iast hx hb hK hP hD hS 1 0 rfl rfl (vp_in_nI (n := (j * wi + fd)) (by omega) (by omega)) dX3_put_44 (fun H locs hP hD hS => ?_)
          rw [nI_clamp (n := (j * wi + fd)) (by omega)] at hP hD
          have hP : va_P g vwCl [(h, .inr (3, [.int (nI mo), .int (nI wi), .ref hc, .int (nI cnt)])), aI cy hc nn (upd cf (j * wi + fd) v)] H := hP
          have hD : va_D A [(h, .inr (3, [.int (nI mo), .int (nI wi), .ref hc, .int (nI cnt)])), aI cy hc nn (upd cf (j * wi + fd) v)] := hD
          rw [show (upd cf (j * wi + fd) v) = (putR cf wi cnt (nI j) fd v) from (putR_n hj (by omega)).symm] at hP hD
          exact wr_v () rfl trivial hP hS hx hb hr dX3_put_45 hlk
set_option maxHeartbeats 4000000 in
set_option maxRecDepth 100000 in
theorem c_X3_addRow (l : Launch) (g : va_G) (cy : Nat → ClassId) (h hc : Nat) (sz : Nat) (mo : Nat) (wi : Nat) (nn : Nat) (cf : Nat → Int32) (cnt : Nat) (hmo : mo ≤ 20) (hwi : wi ≤ 11) (hnn : mo * wi = nn) (hnn2 : nn ≤ 220) (hcnt : cnt ≤ mo) (hlt : cnt < mo) : Met l yX3_addRow (Cond.code yX3_addRow cX3_addRow 3 (some .int) :: wsL_law) ({ frames := 1, cells := 0, slots := 0, locals := 24 } : Room) (va_Pc [.ref h] (pr g cy [(h, .inr (3, [.int (nI mo), .int (nI wi), .ref hc, .int (nI cnt)])), aI cy hc nn cf] sz)) (wr_Q (fun _ : Unit => (some (.int (nI cnt)))) (fun _ : Unit => True) (fun _ : Unit => [(h, .inr (3, [.int (nI mo), .int (nI wi), .ref hc, .int (nI (cnt + 1))])), aI cy hc nn (zrI cf (cnt * wi) wi)]) g (va_A [(h, .inr (3, [.int (nI mo), .int (nI wi), .ref hc, .int (nI cnt)])), aI cy hc nn cf] sz)) 0 0 (va_A [(h, .inr (3, [.int (nI mo), .int (nI wi), .ref hc, .int (nI cnt)])), aI cy hc nn cf] sz) := by
  refine mt_of (cc := cX3_addRow) (maxL := 3) (ret := (some .int)) (by decide +kernel) (Nat.le_of_ble_eq_true rfl) ?_
  intro pX eX s mX below meth cX ls A hx hb hr hml hown hts hlk hin hsz hAe hA hP hD hK hX hl
  subst hsz
  rw [← hAe]
  clear hAe
  have hl : lv_has ls 3 [(0, .ref h)] := hl
  have hS : va_S A s.heap s.heap [] := va_S.rf
  refine lv_aload_n hx hb dX3_addRow_0 rfl (lv_at hl 0 rfl) ?_
  refine rd_call (va_runV (As := []) (rest := []) ⟨hx, hb, hml, hown, hts⟩ (c_X3_isFull l g cy h hc s.heap.size mo wi nn cf cnt (by omega) (by omega)) ⟨(cB 0 hts wd6_19 wd2_11 wd8_23 rfl rfl (by decide +kernel) ⟨Nat.le_of_ble_eq_true rfl, Nat.le_of_ble_eq_true rfl⟩), hts _ wd6_17, hts _ wd6_18⟩ (pv hK hP hD hS hA hX [0, 1] rfl rfl 3 0 rfl rfl) rfl rfl hl.1 rfl (lv_room (Nat.le_of_ble_eq_true rfl)) dX3_addRow_1 ⟨Nat.zero_le _, Nat.zero_le _⟩) ?_
  show W _ _ _ _ _ _ _ _ _ _ _ _ _ _ _ (F0 mX 4 ls [.int (bI (decide (mo ≤ cnt)))])
  refine lv_if_eq (tgt := 9) hx hb dX3_addRow_4 (by decide) (fun c_4 => ?_) (fun c_4 => ?_)
  · have c_4 := (bI_eq0.mp c_4)
    refine lv_aload_n hx hb dX3_addRow_9 rfl (lv_at hl 0 rfl) ?_
    refine va_get (D := g) (ci := 3) (v := .int (nI cnt)) (C := RX3) (T := TX3) (N := 4) hx hb hts bgX3 hown hK hP 0 rfl rfl 3 (by decide) (hts _ wd5_10) (fun _ h9 => h9) rfl dX3_addRow_10 ?_
    refine lv_istore_n (lv' := [(1, .int (nI cnt)), (0, .ref h)]) hx hb dX3_addRow_13 rfl hl (by decide) rfl (fun ls hl => ?_)
    refine lv_aload_n hx hb dX3_addRow_14 rfl (lv_at hl 1 rfl) ?_
    refine lv_dup hx hb dX3_addRow_15 rfl ?_
    refine va_get (D := g) (ci := 3) (v := .int (nI cnt)) (C := RX3) (T := TX3) (N := 4) hx hb hts bgX3 hown hK hP 0 rfl rfl 3 (by decide) (hts _ wd5_10) (fun _ h9 => h9) rfl dX3_addRow_16 ?_
    refine lv_iconst (v := (nI 1)) hx hb dX3_addRow_19 (by decide) ?_
    refine lv_iadd hx hb dX3_addRow_20 ?_
    refine ti (nI_add cnt 1) ?_
    refine va_put (D := g) (ci := 3) (v := .int (nI (cnt + 1))) (ty := .int) (C := RX3) (T := TX3) (N := 4) hx hb hts bgX3 tyX3 tyX3_ok nmX3 hown hK hP hD hS 0 rfl rfl 3 (by decide) (hts _ wd5_10) (fun _ h9 => h9) rfl (by decide +kernel) rfl rfl (Nat.le_of_ble_eq_true rfl) dX3_addRow_21 (fun H locs hP hD hS => ?_)
    have hP : va_P g vwCl [(h, .inr (3, [.int (nI mo), .int (nI wi), .ref hc, .int (nI (cnt + 1))])), aI cy hc nn cf] H := hP
    have hD : va_D A [(h, .inr (3, [.int (nI mo), .int (nI wi), .ref hc, .int (nI (cnt + 1))])), aI cy hc nn cf] := hD
    refine lv_iconst (v := (nI 0)) hx hb dX3_addRow_24 (by decide) ?_
    refine lv_istore_n (lv' := [(2, .int (nI 0)), (1, .int (nI cnt)), (0, .ref h)]) hx hb dX3_addRow_25 rfl hl (by decide) rfl (fun ls hl => ?_)
    rw [show cf = (zrI cf (cnt * wi) 0) from zrI_0.symm] at hP hD
    refine lp_rule (σ := (Nat)) (fun x9 H9 locs9 ls9 => va_P g vwCl [(h, .inr (3, [.int (nI mo), .int (nI wi), .ref hc, .int (nI (cnt + 1))])), aI cy hc nn (zrI cf (cnt * wi) x9)] H9 ∧ va_D A [(h, .inr (3, [.int (nI mo), .int (nI wi), .ref hc, .int (nI (cnt + 1))])), aI cy hc nn (zrI cf (cnt * wi) x9)] ∧ va_S A s.heap H9 locs9 ∧ lv_has ls9 3 [(0, .ref h), (1, .int (nI cnt)), (2, .int (nI x9))] ∧ (x9 ≤ wi)) (fun x9 => wi - x9) (0) ⟨hP, hD, hS, lv_sub hl [2, 1, 0] rfl, (by omega)⟩ ?_
    rintro i H locs ls ⟨hP, hD, hS, hl, hi⟩ ih26
    try dsimp only at hl hi hP hD ih26
    refine lv_iload_n hx hb dX3_addRow_26 rfl (lv_at hl 2 rfl) ?_
    refine lv_aload_n hx hb dX3_addRow_27 rfl (lv_at hl 0 rfl) ?_
    refine va_get (D := g) (ci := 3) (v := .int (nI wi)) (C := RX3) (T := TX3) (N := 4) hx hb hts bgX3 hown hK hP 0 rfl rfl 1 (by decide) (hts _ wd3_3) (fun _ h9 => h9) rfl dX3_addRow_28 ?_
    refine lv_icmp_ge (tgt := 47) hx hb dX3_addRow_31 (by decide) (fun c_31 => ?_) (fun c_31 => ?_)
    · have c_31 := (nc_le (by omega) (by omega) c_31)
      have e9 : i = wi := by omega
      subst e9
      refine lv_iload_n hx hb dX3_addRow_47 rfl (lv_at hl 1 rfl) ?_
      exact wr_i () rfl trivial hP hS hx hb hr dX3_addRow_48 hlk
    · have c_31 := (nc_nle (by omega) (by omega) c_31)
      refine lv_aload_n hx hb dX3_addRow_34 rfl (lv_at hl 0 rfl) ?_
      refine lv_iload_n hx hb dX3_addRow_35 rfl (lv_at hl 1 rfl) ?_
      refine lv_iload_n hx hb dX3_addRow_36 rfl (lv_at hl 2 rfl) ?_
      refine lv_iconst (v := (nI 0)) hx hb dX3_addRow_37 (by decide) ?_
      refine wr_call (wc := [(h, .inr (3, [.int (nI mo), .int (nI wi), .ref hc, .int (nI (cnt + 1))])), aI cy hc nn (zrI cf (cnt * wi) i)]) (va_runV (As := [.int (nI cnt), .int (nI i), .int (nI 0)]) (rest := []) ⟨hx, hb, hml, hown, hts⟩ (c_X3_put l g cy h hc H.size mo wi nn (zrI cf (cnt * wi) i) (cnt + 1) (nI cnt) i (nI 0) (by omega) (by omega) (by omega) (by omega) (by omega) (by omega)) ⟨(cB 3 hts wd9_3 wd2_11 wd9_0 rfl rfl (by decide +kernel) ⟨Nat.le_of_ble_eq_true rfl, Nat.le_of_ble_eq_true rfl⟩), hts _ wd9_1, hts _ wd9_2⟩ (pv hK hP hD hS hA hX [0, 1] rfl rfl 3 0 rfl rfl) rfl rfl hl.1 rfl (lv_room (Nat.le_of_ble_eq_true rfl)) dX3_addRow_38 ⟨Nat.zero_le _, Nat.zero_le _⟩) hP hD hS hA [0, 1] rfl rfl (fun _ => rfl) ?_
      rintro _u9 H locs - hP hD hS
      have hP : va_P g vwCl [(h, .inr (3, [.int (nI mo), .int (nI wi), .ref hc, .int (nI (cnt + 1))])), aI cy hc nn (putR (zrI cf (cnt * wi) i) wi (cnt + 1) (nI cnt) i (nI 0))] H := hP
      have hD : va_D A [(h, .inr (3, [.int (nI mo), .int (nI wi), .ref hc, .int (nI (cnt + 1))])), aI cy hc nn (putR (zrI cf (cnt * wi) i) wi (cnt + 1) (nI cnt) i (nI 0))] := hD
      show W _ _ _ _ _ _ _ _ _ _ _ _ _ _ _ (F0 mX 41 ls [])
      rw [putR_n (j := cnt) (by omega) (by omega)] at hP hD
      have hP : va_P g vwCl [(h, .inr (3, [.int (nI mo), .int (nI wi), .ref hc, .int (nI (cnt + 1))])), aI cy hc nn (upd (zrI cf (cnt * wi) i) (cnt * wi + i) (nI 0))] H := hP
      have hD : va_D A [(h, .inr (3, [.int (nI mo), .int (nI wi), .ref hc, .int (nI (cnt + 1))])), aI cy hc nn (upd (zrI cf (cnt * wi) i) (cnt * wi + i) (nI 0))] := hD
      rw [show (upd (zrI cf (cnt * wi) i) (cnt * wi + i) (nI 0)) = (zrI cf (cnt * wi) (i + 1)) from zrI_s] at hP hD
      refine lv_iinc (v := (nI (i + 1))) (lv' := [(2, .int (nI (i + 1))), (0, .ref h), (1, .int (nI cnt))]) hx hb dX3_addRow_41 hl (k := 2) rfl (nI_add i 1) (by decide) rfl (fun ls hl => ?_)
      refine lv_goto (tgt := 26) hx hb dX3_addRow_44 (by decide) ?_
      exact ih26 (i + 1) H locs ls ⟨hP, hD, hS, lv_sub hl [1, 2, 0] rfl, (by omega)⟩ (by first | omega | (dsimp only; omega))
  · have c_4 := (bI_ne0.mp c_4)
    exact absurd (of_decide_eq_true c_4) (by omega)
set_option maxHeartbeats 4000000 in
set_option maxRecDepth 100000 in
theorem c_X3_empty (l : Launch) (g : va_G) (cy : Nat → ClassId) (h hc : Nat) (sz : Nat) (mo : Nat) (wi : Nat) (nn : Nat) (cf : Nat → Int32) (cnt : Nat) : Met l yX3_empty (Cond.code yX3_empty cX3_empty 1 none :: wsL_law) ({ frames := 0, cells := 0, slots := 0, locals := 0 } : Room) (va_Pc [.ref h] (pr g cy [(h, .inr (3, [.int (nI mo), .int (nI wi), .ref hc, .int (nI cnt)])), aI cy hc nn cf] sz)) (wr_Q (fun _ : Unit => none) (fun _ : Unit => True) (fun _ : Unit => [(h, .inr (3, [.int (nI mo), .int (nI wi), .ref hc, .int (nI 0)])), aI cy hc nn cf]) g (va_A [(h, .inr (3, [.int (nI mo), .int (nI wi), .ref hc, .int (nI cnt)])), aI cy hc nn cf] sz)) 0 0 (va_A [(h, .inr (3, [.int (nI mo), .int (nI wi), .ref hc, .int (nI cnt)])), aI cy hc nn cf] sz) := by
  refine mt_of (cc := cX3_empty) (maxL := 1) (ret := none) (by decide +kernel) (Nat.le_of_ble_eq_true rfl) ?_
  intro pX eX s mX below meth cX ls A hx hb hr hml hown hts hlk hin hsz hAe hA hP hD hK hX hl
  subst hsz
  rw [← hAe]
  clear hAe
  have hl : lv_has ls 1 [(0, .ref h)] := hl
  have hS : va_S A s.heap s.heap [] := va_S.rf
  refine lv_aload_n hx hb dX3_empty_0 rfl (lv_at hl 0 rfl) ?_
  refine lv_iconst (v := (nI 0)) hx hb dX3_empty_1 (by decide) ?_
  refine va_put (D := g) (ci := 3) (v := .int (nI 0)) (ty := .int) (C := RX3) (T := TX3) (N := 4) hx hb hts bgX3 tyX3 tyX3_ok nmX3 hown hK hP hD hS 0 rfl rfl 3 (by decide) (hts _ wd5_10) (fun _ h9 => h9) rfl (by decide +kernel) rfl rfl (Nat.le_of_ble_eq_true rfl) dX3_empty_2 (fun H locs hP hD hS => ?_)
  have hP : va_P g vwCl [(h, .inr (3, [.int (nI mo), .int (nI wi), .ref hc, .int (nI 0)])), aI cy hc nn cf] H := hP
  have hD : va_D A [(h, .inr (3, [.int (nI mo), .int (nI wi), .ref hc, .int (nI 0)])), aI cy hc nn cf] := hD
  exact wr_v () rfl trivial hP hS hx hb hr dX3_empty_5 hlk
set_option maxHeartbeats 4000000 in
set_option maxRecDepth 100000 in
theorem c_X3_copyFrom (l : Launch) (g : va_G) (cy : Nat → ClassId) (h hc h2 hc2 : Nat) (sz : Nat) (mo : Nat) (wi : Nat) (nn : Nat) (cf : Nat → Int32) (cnt : Nat) (cf2 : Nat → Int32) (cnt2 : Nat) (hnn2 : nn ≤ 220) : Met l yX3_copyFrom (Cond.code yX3_copyFrom cX3_copyFrom 2 none :: wsL_law) ({ frames := 1, cells := 0, slots := 0, locals := 40 } : Room) (va_Pc [.ref h, .ref h2] (pr g cy [(h, .inr (3, [.int (nI mo), .int (nI wi), .ref hc, .int (nI cnt)])), aI cy hc nn cf, (h2, .inr (3, [.int (nI mo), .int (nI wi), .ref hc2, .int (nI cnt2)])), aI cy hc2 nn cf2] sz)) (wr_Q (fun _ : Unit => none) (fun _ : Unit => True) (fun _ : Unit => [(h, .inr (3, [.int (nI mo), .int (nI wi), .ref hc, .int (nI cnt2)])), aI cy hc nn cf2, (h2, .inr (3, [.int (nI mo), .int (nI wi), .ref hc2, .int (nI cnt2)])), aI cy hc2 nn cf2]) g (va_A [(h, .inr (3, [.int (nI mo), .int (nI wi), .ref hc, .int (nI cnt)])), aI cy hc nn cf, (h2, .inr (3, [.int (nI mo), .int (nI wi), .ref hc2, .int (nI cnt2)])), aI cy hc2 nn cf2] sz)) 0 0 (va_A [(h, .inr (3, [.int (nI mo), .int (nI wi), .ref hc, .int (nI cnt)])), aI cy hc nn cf, (h2, .inr (3, [.int (nI mo), .int (nI wi), .ref hc2, .int (nI cnt2)])), aI cy hc2 nn cf2] sz) := by
  refine mt_of (cc := cX3_copyFrom) (maxL := 2) (ret := none) (by decide +kernel) (Nat.le_of_ble_eq_true rfl) ?_
  intro pX eX s mX below meth cX ls A hx hb hr hml hown hts hlk hin hsz hAe hA hP hD hK hX hl
  subst hsz
  rw [← hAe]
  clear hAe
  have hl : lv_has ls 2 [(0, .ref h), (1, .ref h2)] := hl
  have hS : va_S A s.heap s.heap [] := va_S.rf
  refine lv_aload_n hx hb dX3_copyFrom_0 rfl (lv_at hl 1 rfl) ?_
  refine va_get (D := g) (ci := 3) (v := .ref hc2) (C := RX3) (T := TX3) (N := 4) hx hb hts bgX3 hown hK hP 2 rfl rfl 2 (by decide) (hts _ wd3_8) (fun _ h9 => h9) rfl dX3_copyFrom_1 ?_
  refine lv_iconst (v := (nI 0)) hx hb dX3_copyFrom_4 (by decide) ?_
  refine lv_aload_n hx hb dX3_copyFrom_5 rfl (lv_at hl 0 rfl) ?_
  refine va_get (D := g) (ci := 3) (v := .ref hc) (C := RX3) (T := TX3) (N := 4) hx hb hts bgX3 hown hK hP 0 rfl rfl 2 (by decide) (hts _ wd3_8) (fun _ h9 => h9) rfl dX3_copyFrom_6 ?_
  refine lv_iconst (v := (nI 0)) hx hb dX3_copyFrom_9 (by decide) ?_
  refine lv_aload_n hx hb dX3_copyFrom_10 rfl (lv_at hl 1 rfl) ?_
  refine va_get (D := g) (ci := 3) (v := .ref hc2) (C := RX3) (T := TX3) (N := 4) hx hb hts bgX3 hown hK hP 2 rfl rfl 2 (by decide) (hts _ wd3_8) (fun _ h9 => h9) rfl dX3_copyFrom_11 ?_
  refine va_alen (v := nI nn) hx hb hK hP 3 0 rfl rfl rfl dX3_copyFrom_14 ?_
  refine lv_aload_n hx hb dX3_copyFrom_15 rfl (lv_at hl 0 rfl) ?_
  refine va_get (D := g) (ci := 3) (v := .ref hc) (C := RX3) (T := TX3) (N := 4) hx hb hts bgX3 hown hK hP 0 rfl rfl 2 (by decide) (hts _ wd3_8) (fun _ h9 => h9) rfl dX3_copyFrom_16 ?_
  refine va_alen (v := nI nn) hx hb hK hP 1 0 rfl rfl rfl dX3_copyFrom_19 ?_
  refine va_mmin hx hb (by rw [hml]; exact hl.1.symm) hown (hts _ wd8_12) (hts _ wd7_20) (hts _ wd3_6) (hts _ wd7_21) (Nat.le_of_ble_eq_true rfl) (Nat.le_of_ble_eq_true rfl) (Nat.zero_le _) (Nat.zero_le _) dX3_copyFrom_20 ?_
  refine ti (show (if (nI nn) < (nI nn) then (nI nn) else (nI nn)) = (nI nn) from (min_self _)) ?_
  refine va_copyi hx hb (by rw [hml]; exact hl.1.symm) hown (hts _ wd8_13) (hts _ wd7_23) (hts _ wd8_0) (hts _ wd8_1) hK hP hD hS 3 1 0 0 rfl rfl rfl rfl rfl (nI_pos (by omega)) (nI_pos (by omega)) (nI_pos (by omega)) (by rw [nI_clamp (by omega), nI_clamp (by omega)]; omega) (by rw [nI_clamp (by omega), nI_clamp (by omega)]; omega) (fun i _ => rfl) (Nat.le_of_ble_eq_true rfl) (Nat.le_of_ble_eq_true rfl) dX3_copyFrom_23 (fun H locs hP hD hS => ?_)
  rw [nI_clamp (n := 0) (by omega), nI_clamp (n := nn) (by omega)] at hP hD
  have hP : va_P g vwCl [(h, .inr (3, [.int (nI mo), .int (nI wi), .ref hc, .int (nI cnt)])), aI cy hc nn (va_cpy cf2 cf 0 0 nn), (h2, .inr (3, [.int (nI mo), .int (nI wi), .ref hc2, .int (nI cnt2)])), aI cy hc2 nn cf2] H := hP
  have hD : va_D A [(h, .inr (3, [.int (nI mo), .int (nI wi), .ref hc, .int (nI cnt)])), aI cy hc nn (va_cpy cf2 cf 0 0 nn), (h2, .inr (3, [.int (nI mo), .int (nI wi), .ref hc2, .int (nI cnt2)])), aI cy hc2 nn cf2] := hD
  obtain ⟨hP, hD⟩ := arr_c cf2 hP hD 1 rfl (fun j hj => cpy_all j hj)
  have hP : va_P g vwCl [(h, .inr (3, [.int (nI mo), .int (nI wi), .ref hc, .int (nI cnt)])), aI cy hc nn cf2, (h2, .inr (3, [.int (nI mo), .int (nI wi), .ref hc2, .int (nI cnt2)])), aI cy hc2 nn cf2] H := hP
  have hD : va_D A [(h, .inr (3, [.int (nI mo), .int (nI wi), .ref hc, .int (nI cnt)])), aI cy hc nn cf2, (h2, .inr (3, [.int (nI mo), .int (nI wi), .ref hc2, .int (nI cnt2)])), aI cy hc2 nn cf2] := hD
  refine lv_aload_n hx hb dX3_copyFrom_26 rfl (lv_at hl 0 rfl) ?_
  refine lv_aload_n hx hb dX3_copyFrom_27 rfl (lv_at hl 1 rfl) ?_
  refine va_get (D := g) (ci := 3) (v := .int (nI cnt2)) (C := RX3) (T := TX3) (N := 4) hx hb hts bgX3 hown hK hP 2 rfl rfl 3 (by decide) (hts _ wd5_10) (fun _ h9 => h9) rfl dX3_copyFrom_28 ?_
  refine va_put (D := g) (ci := 3) (v := .int (nI cnt2)) (ty := .int) (C := RX3) (T := TX3) (N := 4) hx hb hts bgX3 tyX3 tyX3_ok nmX3 hown hK hP hD hS 0 rfl rfl 3 (by decide) (hts _ wd5_10) (fun _ h9 => h9) rfl (by decide +kernel) rfl rfl (Nat.le_of_ble_eq_true rfl) dX3_copyFrom_31 (fun H locs hP hD hS => ?_)
  have hP : va_P g vwCl [(h, .inr (3, [.int (nI mo), .int (nI wi), .ref hc, .int (nI cnt2)])), aI cy hc nn cf2, (h2, .inr (3, [.int (nI mo), .int (nI wi), .ref hc2, .int (nI cnt2)])), aI cy hc2 nn cf2] H := hP
  have hD : va_D A [(h, .inr (3, [.int (nI mo), .int (nI wi), .ref hc, .int (nI cnt2)])), aI cy hc nn cf2, (h2, .inr (3, [.int (nI mo), .int (nI wi), .ref hc2, .int (nI cnt2)])), aI cy hc2 nn cf2] := hD
  exact wr_v () rfl trivial hP hS hx hb hr dX3_copyFrom_34 hlk
set_option maxHeartbeats 4000000 in
set_option maxRecDepth 100000 in
theorem c_X2_copyFrom (l : Launch) (g : va_G) (cy : Nat → ClassId) (hq hw hs hq2 hw2 hs2 : Nat) (sz : Nat) (Wv : Nat → Int32) (SW : Nat → Int32) (cl : Nat) (Wv2 : Nat → Int32) (SW2 : Nat → Int32) (cl2 : Nat) : Met l yX2_copyFrom (Cond.code yX2_copyFrom cX2_copyFrom 2 none :: wsL_law) ({ frames := 1, cells := 0, slots := 0, locals := 40 } : Room) (va_Pc [.ref hq, .ref hq2] (pr g cy [(hq, .inr (2, [.ref hw, .ref hs, .int (nI cl)])), aI cy hw 144 Wv, aI cy hs 12 SW, (hq2, .inr (2, [.ref hw2, .ref hs2, .int (nI cl2)])), aI cy hw2 144 Wv2, aI cy hs2 12 SW2] sz)) (wr_Q (fun _ : Unit => none) (fun _ : Unit => True) (fun _ : Unit => [(hq, .inr (2, [.ref hw, .ref hs, .int (nI cl2)])), aI cy hw 144 Wv2, aI cy hs 12 SW, (hq2, .inr (2, [.ref hw2, .ref hs2, .int (nI cl2)])), aI cy hw2 144 Wv2, aI cy hs2 12 SW2]) g (va_A [(hq, .inr (2, [.ref hw, .ref hs, .int (nI cl)])), aI cy hw 144 Wv, aI cy hs 12 SW, (hq2, .inr (2, [.ref hw2, .ref hs2, .int (nI cl2)])), aI cy hw2 144 Wv2, aI cy hs2 12 SW2] sz)) 0 0 (va_A [(hq, .inr (2, [.ref hw, .ref hs, .int (nI cl)])), aI cy hw 144 Wv, aI cy hs 12 SW, (hq2, .inr (2, [.ref hw2, .ref hs2, .int (nI cl2)])), aI cy hw2 144 Wv2, aI cy hs2 12 SW2] sz) := by
  refine mt_of (cc := cX2_copyFrom) (maxL := 2) (ret := none) (by decide +kernel) (Nat.le_of_ble_eq_true rfl) ?_
  intro pX eX s mX below meth cX ls A hx hb hr hml hown hts hlk hin hsz hAe hA hP hD hK hX hl
  subst hsz
  rw [← hAe]
  clear hAe
  have hl : lv_has ls 2 [(0, .ref hq), (1, .ref hq2)] := hl
  have hS : va_S A s.heap s.heap [] := va_S.rf
  refine lv_aload_n hx hb dX2_copyFrom_0 rfl (lv_at hl 1 rfl) ?_
  refine va_get (D := g) (ci := 2) (v := .ref hw2) (C := RX2) (T := TX2) (N := 3) hx hb hts bgX2 hown hK hP 3 rfl rfl 0 (by decide) (hts _ wd2_20) (fun _ h9 => h9) rfl dX2_copyFrom_1 ?_
  refine lv_iconst (v := (nI 0)) hx hb dX2_copyFrom_4 (by decide) ?_
  refine lv_aload_n hx hb dX2_copyFrom_5 rfl (lv_at hl 0 rfl) ?_
  refine va_get (D := g) (ci := 2) (v := .ref hw) (C := RX2) (T := TX2) (N := 3) hx hb hts bgX2 hown hK hP 0 rfl rfl 0 (by decide) (hts _ wd2_20) (fun _ h9 => h9) rfl dX2_copyFrom_6 ?_
  refine lv_iconst (v := (nI 0)) hx hb dX2_copyFrom_9 (by decide) ?_
  refine lv_aload_n hx hb dX2_copyFrom_10 rfl (lv_at hl 1 rfl) ?_
  refine va_get (D := g) (ci := 2) (v := .ref hw2) (C := RX2) (T := TX2) (N := 3) hx hb hts bgX2 hown hK hP 3 rfl rfl 0 (by decide) (hts _ wd2_20) (fun _ h9 => h9) rfl dX2_copyFrom_11 ?_
  refine va_alen (v := nI 144) hx hb hK hP 4 0 rfl rfl rfl dX2_copyFrom_14 ?_
  refine lv_aload_n hx hb dX2_copyFrom_15 rfl (lv_at hl 0 rfl) ?_
  refine va_get (D := g) (ci := 2) (v := .ref hw) (C := RX2) (T := TX2) (N := 3) hx hb hts bgX2 hown hK hP 0 rfl rfl 0 (by decide) (hts _ wd2_20) (fun _ h9 => h9) rfl dX2_copyFrom_16 ?_
  refine va_alen (v := nI 144) hx hb hK hP 1 0 rfl rfl rfl dX2_copyFrom_19 ?_
  refine va_mmin hx hb (by rw [hml]; exact hl.1.symm) hown (hts _ wd8_6) (hts _ wd7_20) (hts _ wd3_6) (hts _ wd7_21) (Nat.le_of_ble_eq_true rfl) (Nat.le_of_ble_eq_true rfl) (Nat.zero_le _) (Nat.zero_le _) dX2_copyFrom_20 ?_
  refine ti (show (if (nI 144) < (nI 144) then (nI 144) else (nI 144)) = (nI 144) from (min_self _)) ?_
  refine va_copyi hx hb (by rw [hml]; exact hl.1.symm) hown (hts _ wd8_7) (hts _ wd7_23) (hts _ wd8_0) (hts _ wd8_1) hK hP hD hS 4 1 0 0 rfl rfl rfl rfl rfl (nI_pos (by omega)) (nI_pos (by omega)) (nI_pos (by omega)) (by rw [nI_clamp (by omega), nI_clamp (by omega)]; omega) (by rw [nI_clamp (by omega), nI_clamp (by omega)]; omega) (fun i _ => rfl) (Nat.le_of_ble_eq_true rfl) (Nat.le_of_ble_eq_true rfl) dX2_copyFrom_23 (fun H locs hP hD hS => ?_)
  rw [nI_clamp (n := 0) (by omega), nI_clamp (n := 144) (by omega)] at hP hD
  have hP : va_P g vwCl [(hq, .inr (2, [.ref hw, .ref hs, .int (nI cl)])), aI cy hw 144 (va_cpy Wv2 Wv 0 0 144), aI cy hs 12 SW, (hq2, .inr (2, [.ref hw2, .ref hs2, .int (nI cl2)])), aI cy hw2 144 Wv2, aI cy hs2 12 SW2] H := hP
  have hD : va_D A [(hq, .inr (2, [.ref hw, .ref hs, .int (nI cl)])), aI cy hw 144 (va_cpy Wv2 Wv 0 0 144), aI cy hs 12 SW, (hq2, .inr (2, [.ref hw2, .ref hs2, .int (nI cl2)])), aI cy hw2 144 Wv2, aI cy hs2 12 SW2] := hD
  obtain ⟨hP, hD⟩ := arr_c Wv2 hP hD 1 rfl (fun j hj => cpy_all j hj)
  have hP : va_P g vwCl [(hq, .inr (2, [.ref hw, .ref hs, .int (nI cl)])), aI cy hw 144 Wv2, aI cy hs 12 SW, (hq2, .inr (2, [.ref hw2, .ref hs2, .int (nI cl2)])), aI cy hw2 144 Wv2, aI cy hs2 12 SW2] H := hP
  have hD : va_D A [(hq, .inr (2, [.ref hw, .ref hs, .int (nI cl)])), aI cy hw 144 Wv2, aI cy hs 12 SW, (hq2, .inr (2, [.ref hw2, .ref hs2, .int (nI cl2)])), aI cy hw2 144 Wv2, aI cy hs2 12 SW2] := hD
  refine lv_aload_n hx hb dX2_copyFrom_26 rfl (lv_at hl 0 rfl) ?_
  refine lv_aload_n hx hb dX2_copyFrom_27 rfl (lv_at hl 1 rfl) ?_
  refine va_get (D := g) (ci := 2) (v := .int (nI cl2)) (C := RX2) (T := TX2) (N := 3) hx hb hts bgX2 hown hK hP 3 rfl rfl 2 (by decide) (hts _ wd4_10) (fun _ h9 => h9) rfl dX2_copyFrom_28 ?_
  refine va_put (D := g) (ci := 2) (v := .int (nI cl2)) (ty := .int) (C := RX2) (T := TX2) (N := 3) hx hb hts bgX2 tyX2 tyX2_ok nmX2 hown hK hP hD hS 0 rfl rfl 2 (by decide) (hts _ wd4_10) (fun _ h9 => h9) rfl (by decide +kernel) rfl rfl (Nat.le_of_ble_eq_true rfl) dX2_copyFrom_31 (fun H locs hP hD hS => ?_)
  have hP : va_P g vwCl [(hq, .inr (2, [.ref hw, .ref hs, .int (nI cl2)])), aI cy hw 144 Wv2, aI cy hs 12 SW, (hq2, .inr (2, [.ref hw2, .ref hs2, .int (nI cl2)])), aI cy hw2 144 Wv2, aI cy hs2 12 SW2] H := hP
  have hD : va_D A [(hq, .inr (2, [.ref hw, .ref hs, .int (nI cl2)])), aI cy hw 144 Wv2, aI cy hs 12 SW, (hq2, .inr (2, [.ref hw2, .ref hs2, .int (nI cl2)])), aI cy hw2 144 Wv2, aI cy hs2 12 SW2] := hD
  exact wr_v () rfl trivial hP hS hx hb hr dX2_copyFrom_34 hlk
set_option maxHeartbeats 4000000 in
set_option maxRecDepth 100000 in
theorem c_X2_setClosed (l : Launch) (g : va_G) (cy : Nat → ClassId) (hq hw hs : Nat) (sz : Nat) (σ : Nat → Nat) (SW : Nat → Int32) (k : Nat) (on : Bool) (hk : k < 17) : Met l yX2_setClosed (Cond.code yX2_setClosed cX2_setClosed 4 none :: wsL_law) ({ frames := 3, cells := 0, slots := 0, locals := 70 } : Room) (va_Pc [.ref hq, .int (nI k), .int (bI on)] (pr g cy [(hq, .inr (2, [.ref hw, .ref hs, .int (nI (cmk σ))])), aI cy hw 144 (wv σ), aI cy hs 12 SW] sz)) (wr_Q (fun _ : Unit => none) (fun _ : Unit => True) (fun _ : Unit => [(hq, .inr (2, [.ref hw, .ref hs, .int (nI (cmk (clS σ k on)))])), aI cy hw 144 (wv (clS σ k on)), aI cy hs 12 SW]) g (va_A [(hq, .inr (2, [.ref hw, .ref hs, .int (nI (cmk σ))])), aI cy hw 144 (wv σ), aI cy hs 12 SW] sz)) 0 0 (va_A [(hq, .inr (2, [.ref hw, .ref hs, .int (nI (cmk σ))])), aI cy hw 144 (wv σ), aI cy hs 12 SW] sz) := by
  refine mt_of (cc := cX2_setClosed) (maxL := 4) (ret := none) (by decide +kernel) (Nat.le_of_ble_eq_true rfl) ?_
  intro pX eX s mX below meth cX ls A hx hb hr hml hown hts hlk hin hsz hAe hA hP hD hK hX hl
  subst hsz
  rw [← hAe]
  clear hAe
  have hl : lv_has ls 4 [(0, .ref hq), (1, .int (nI k)), (2, .int (bI on))] := hl
  have hS : va_S A s.heap s.heap [] := va_S.rf
  have hcm : cmk σ < 2 ^ 17 := mk_lt _ _
  have hcm2 : cmk (clS σ k on) < 2 ^ 17 := mk_lt _ _
  refine lv_aload_n hx hb dX2_setClosed_0 rfl (lv_at hl 0 rfl) ?_
  refine va_get (D := g) (ci := 2) (v := .int (nI (cmk σ))) (C := RX2) (T := TX2) (N := 3) hx hb hts bgX2 hown hK hP 0 rfl rfl 2 (by decide) (hts _ wd4_10) (fun _ h9 => h9) rfl dX2_setClosed_1 ?_
  refine lv_istore_n (lv' := [(3, .int (nI (cmk σ))), (0, .ref hq), (1, .int (nI k)), (2, .int (bI on))]) hx hb dX2_setClosed_4 rfl hl (by decide) rfl (fun ls hl => ?_)
  refine lv_aload_n hx hb dX2_setClosed_5 rfl (lv_at hl 1 rfl) ?_
  refine jn_i (pcj := 31) (ls := ls) (st := [.ref hq]) (fun v9 => v9 = (nI (cmk (clS σ k on)))) ?_ (fun jn31 => ?_)
  · intro v9 hv9
    subst hv9
    refine va_put (D := g) (ci := 2) (v := .int (nI (cmk (clS σ k on)))) (ty := .int) (C := RX2) (T := TX2) (N := 3) hx hb hts bgX2 tyX2 tyX2_ok nmX2 hown hK hP hD hS 0 rfl rfl 2 (by decide) (hts _ wd4_10) (fun _ h9 => h9) rfl (by decide +kernel) rfl rfl (Nat.le_of_ble_eq_true rfl) dX2_setClosed_31 (fun H locs hP hD hS => ?_)
    have hP : va_P g vwCl [(hq, .inr (2, [.ref hw, .ref hs, .int (nI (cmk (clS σ k on)))])), aI cy hw 144 (wv σ), aI cy hs 12 SW] H := hP
    have hD : va_D A [(hq, .inr (2, [.ref hw, .ref hs, .int (nI (cmk (clS σ k on)))])), aI cy hw 144 (wv σ), aI cy hs 12 SW] := hD
    refine lv_aload_n hx hb dX2_setClosed_34 rfl (lv_at hl 1 rfl) ?_
    refine va_get (D := g) (ci := 2) (v := .int (nI (cmk (clS σ k on)))) (C := RX2) (T := TX2) (N := 3) hx hb hts bgX2 hown hK hP 0 rfl rfl 2 (by decide) (hts _ wd4_10) (fun _ h9 => h9) rfl dX2_setClosed_35 ?_
    refine lv_iload_n hx hb dX2_setClosed_38 rfl (lv_at hl 0 rfl) ?_
    refine lv_icmp_eq (tgt := 46) hx hb dX2_setClosed_39 (by decide) (fun c_39 => ?_) (fun c_39 => ?_)
    · have c_39 := (nc_eq9 (by omega) (by omega) c_39)
      obtain ⟨hP, hD⟩ := arr_c (wv (clS σ k on)) hP hD 1 rfl (wv_cl c_39)
      have hP : va_P g vwCl [(hq, .inr (2, [.ref hw, .ref hs, .int (nI (cmk (clS σ k on)))])), aI cy hw 144 (wv (clS σ k on)), aI cy hs 12 SW] H := hP
      have hD : va_D A [(hq, .inr (2, [.ref hw, .ref hs, .int (nI (cmk (clS σ k on)))])), aI cy hw 144 (wv (clS σ k on)), aI cy hs 12 SW] := hD
      exact wr_v () rfl trivial hP hS hx hb hr dX2_setClosed_46 hlk
    · have c_39 := (nc_ne9 (by omega) (by omega) c_39)
      refine lv_aload_n hx hb dX2_setClosed_42 rfl (lv_at hl 1 rfl) ?_
      refine wr_call (wc := [(hq, .inr (2, [.ref hw, .ref hs, .int (nI (cmk (clS σ k on)))])), aI cy hw 144 (wv σ), aI cy hs 12 SW]) (va_runV (As := []) (rest := []) ⟨hx, hb, hml, hown, hts⟩ (c_X2_measureAll l g cy hq hw hs H.size (clS σ k on) (wv σ) SW (cmk (clS σ k on)) (cmk_RC _)) ⟨(cB 0 hts wd4_14 wd2_7 wd4_11 rfl rfl (by decide +kernel) ⟨Nat.le_of_ble_eq_true rfl, Nat.le_of_ble_eq_true rfl⟩), hts _ wd4_12, hts _ wd4_13⟩ (pv hK hP hD hS hA hX [0, 1, 2] rfl rfl 2 0 rfl rfl) rfl rfl hl.1 rfl (lv_room (Nat.le_of_ble_eq_true rfl)) dX2_setClosed_43 ⟨Nat.zero_le _, Nat.zero_le _⟩) hP hD hS hA [0, 1, 2] rfl rfl (fun _ => rfl) ?_
      rintro W1_43 H locs hW1_43 hP hD hS
      have hP : va_P g vwCl [(hq, .inr (2, [.ref hw, .ref hs, .int (nI (cmk (clS σ k on)))])), aI cy hw 144 W1_43, aI cy hs 12 SW] H := hP
      have hD : va_D A [(hq, .inr (2, [.ref hw, .ref hs, .int (nI (cmk (clS σ k on)))])), aI cy hw 144 W1_43, aI cy hs 12 SW] := hD
      have hW1_43 : ∀ i9, i9 < 144 → W1_43 i9 = wv (clS σ k on) i9 := hW1_43
      show W _ _ _ _ _ _ _ _ _ _ _ _ _ _ _ (F0 mX 46 ls [])
      obtain ⟨hP, hD⟩ := arr_c (wv (clS σ k on)) hP hD 1 rfl hW1_43
      have hP : va_P g vwCl [(hq, .inr (2, [.ref hw, .ref hs, .int (nI (cmk (clS σ k on)))])), aI cy hw 144 (wv (clS σ k on)), aI cy hs 12 SW] H := hP
      have hD : va_D A [(hq, .inr (2, [.ref hw, .ref hs, .int (nI (cmk (clS σ k on)))])), aI cy hw 144 (wv (clS σ k on)), aI cy hs 12 SW] := hD
      exact wr_v () rfl trivial hP hS hx hb hr dX2_setClosed_46 hlk
  · skip
    refine lv_iload_n hx hb dX2_setClosed_6 rfl (lv_at hl 3 rfl) ?_
    refine lv_if_eq (tgt := 21) hx hb dX2_setClosed_7 (by decide) (fun c_7 => ?_) (fun c_7 => ?_)
    · have c_7 := (bI_eq0.mp c_7)
      refine lv_aload_n hx hb dX2_setClosed_21 rfl (lv_at hl 1 rfl) ?_
      refine va_get (D := g) (ci := 2) (v := .int (nI (cmk σ))) (C := RX2) (T := TX2) (N := 3) hx hb hts bgX2 hown hK hP 0 rfl rfl 2 (by decide) (hts _ wd4_10) (fun _ h9 => h9) rfl dX2_setClosed_22 ?_
      refine lv_iconst (v := (nI 1)) hx hb dX2_setClosed_25 (by decide) ?_
      refine lv_iload_n hx hb dX2_setClosed_26 rfl (lv_at hl 2 rfl) ?_
      refine lv_ishl hx hb dX2_setClosed_27 ?_
      refine ti (nb_shl (k := k) (by omega)) ?_
      refine lv_iconst (v := (nI NN)) hx hb dX2_setClosed_28 (by decide) ?_
      refine lv_ixor hx hb dX2_setClosed_29 ?_
      refine ti (nx_xor (2 ^ k) NN) ?_
      refine lv_iand hx hb dX2_setClosed_30 ?_
      refine ti (nx_and (cmk σ) ((2 ^ k) ^^^ NN)) ?_
      exact jn31 _ (by rw [c_7]; exact cl_off hk)
    · have c_7 := (bI_ne0.mp c_7)
      refine lv_aload_n hx hb dX2_setClosed_10 rfl (lv_at hl 1 rfl) ?_
      refine va_get (D := g) (ci := 2) (v := .int (nI (cmk σ))) (C := RX2) (T := TX2) (N := 3) hx hb hts bgX2 hown hK hP 0 rfl rfl 2 (by decide) (hts _ wd4_10) (fun _ h9 => h9) rfl dX2_setClosed_11 ?_
      refine lv_iconst (v := (nI 1)) hx hb dX2_setClosed_14 (by decide) ?_
      refine lv_iload_n hx hb dX2_setClosed_15 rfl (lv_at hl 2 rfl) ?_
      refine lv_ishl hx hb dX2_setClosed_16 ?_
      refine ti (nb_shl (k := k) (by omega)) ?_
      refine lv_ior hx hb dX2_setClosed_17 ?_
      refine ti (nx_or (cmk σ) (2 ^ k)) ?_
      refine lv_goto (tgt := 31) hx hb dX2_setClosed_18 (by decide) ?_
      exact jn31 _ (congrArg nI (by rw [c_7]; exact cl_on hk))
set_option maxHeartbeats 4000000 in
set_option maxRecDepth 100000 in
theorem c_X2_streetBetween (l : Launch) (g : va_G) (cy : Nat → ClassId) (sz : Nat) (a : Nat) (b : Nat) (ha : a < 12) (hb9 : b < 12) : Met l yX2_streetBetween (Cond.code yX2_streetBetween cX2_streetBetween 3 (some .int) :: wsL_law) ({ frames := 0, cells := 0, slots := 0, locals := 0 } : Room) (va_Pc [.int (nI a), .int (nI b)] (pr g cy [] sz)) (rd_Q (some (.int (nI (sbt a b 17))))) 0 0 (nF) := by
  refine mt_of (cc := cX2_streetBetween) (maxL := 3) (ret := (some .int)) (by decide +kernel) (Nat.le_of_ble_eq_true rfl) ?_
  intro pX eX s mX below meth cX ls A hx hb hr hml hown hts hlk hin hsz hAe hA hP hD hK hX hl
  have hl : lv_has ls 3 [(0, .int (nI a)), (1, .int (nI b))] := hl
  have hS : va_S A s.heap s.heap [] := va_S.rf
  refine lv_iconst (v := (nI 0)) hx hb dX2_streetBetween_0 (by decide) ?_
  refine lv_istore_n (lv' := [(2, .int (nI 0)), (0, .int (nI a)), (1, .int (nI b))]) hx hb dX2_streetBetween_1 rfl hl (by decide) rfl (fun ls hl => ?_)
  refine lp_rd (σ := (Nat)) (fun x9 ls9 => lv_has ls9 3 [(0, .int (nI a)), (1, .int (nI b)), (2, .int (nI (2 * x9)))] ∧ (x9 ≤ 17) ∧ (∀ j, j < x9 → mtc j a b = false)) (fun x9 => 17 - x9) (0) ⟨lv_sub hl [1, 2, 0] rfl, (by omega), (fun j hj => absurd hj (Nat.not_lt_zero _))⟩ ?_
  rintro k ls ⟨hl, hk, hno⟩ ih2
  try dsimp only at hl hk hno ih2
  refine lv_iload_n hx hb dX2_streetBetween_2 rfl (lv_at hl 2 rfl) ?_
  refine lv_iconst (v := (nI 1)) hx hb dX2_streetBetween_3 (by decide) ?_
  refine lv_iadd hx hb dX2_streetBetween_4 ?_
  refine ti (nI_add (2 * k) 1) ?_
  obtain ⟨tE, hZ, hT⟩ := hX.2.2.2.1
  refine va_gets hx hb hZ hS hown (hts _ wd5_5) (fun _ h9 => h9) dX2_streetBetween_5 ?_
  refine va_tlen (v := nI 34) hx hb hT hS rfl dX2_streetBetween_8 ?_
  refine lv_icmp_ge (tgt := 62) hx hb dX2_streetBetween_9 (by decide) (fun c_9 => ?_) (fun c_9 => ?_)
  · have c_9 := (nc_le (by omega) (by omega) c_9)
    have e9 : k = 17 := by omega
    subst e9
    refine lv_iconst (v := (nI NN)) hx hb dX2_streetBetween_62 (by decide) ?_
    exact rd_i (congrArg nI (sbt_no 17 hno).symm) hx hb hr dX2_streetBetween_63 hlk
  · have c_9 := (nc_nle (by omega) (by omega) c_9)
    have hk17 : k < 17 := by omega
    have e0 := ends_lt (2 * k) (by omega)
    have e1 := ends_lt (2 * k + 1) (by omega)
    obtain ⟨tE, hZ, hT⟩ := hX.2.2.2.1
    refine va_gets hx hb hZ hS hown (hts _ wd5_5) (fun _ h9 => h9) dX2_streetBetween_12 ?_
    refine lv_iload_n hx hb dX2_streetBetween_15 rfl (lv_at hl 2 rfl) ?_
    refine va_ti (v := .int (nI (endsV (2 * k)))) hx hb hT hS (vp_in_nI (by omega) (by omega)) (by rw [nI_clamp (by omega)]; rfl) dX2_streetBetween_16 ?_
    refine lv_iload_n hx hb dX2_streetBetween_17 rfl (lv_at hl 0 rfl) ?_
    refine lv_icmp_ne (tgt := 32) hx hb dX2_streetBetween_18 (by decide) (fun c_18 => ?_) (fun c_18 => ?_)
    · have c_18 := (nc_ne9 (by omega) (by omega) c_18)
      obtain ⟨tE, hZ, hT⟩ := hX.2.2.2.1
      refine va_gets hx hb hZ hS hown (hts _ wd5_5) (fun _ h9 => h9) dX2_streetBetween_32 ?_
      refine lv_iload_n hx hb dX2_streetBetween_35 rfl (lv_at hl 2 rfl) ?_
      refine va_ti (v := .int (nI (endsV (2 * k)))) hx hb hT hS (vp_in_nI (by omega) (by omega)) (by rw [nI_clamp (by omega)]; rfl) dX2_streetBetween_36 ?_
      refine lv_iload_n hx hb dX2_streetBetween_37 rfl (lv_at hl 1 rfl) ?_
      refine lv_icmp_ne (tgt := 56) hx hb dX2_streetBetween_38 (by decide) (fun c_38 => ?_) (fun c_38 => ?_)
      · have c_38 := (nc_ne9 (by omega) (by omega) c_38)
        refine lv_iinc (v := (nI ((2 * k) + 2))) (lv' := [(2, .int (nI ((2 * k) + 2))), (0, .int (nI a)), (1, .int (nI b))]) hx hb dX2_streetBetween_56 hl (k := 2) rfl (nI_add (2 * k) 2) (by decide) rfl (fun ls hl => ?_)
        have hl : lv_has ls 3 [(2, .int (nI (2 * (k + 1)))), (0, .int (nI a)), (1, .int (nI b))] := by rw [← show (nI ((2 * k) + 2)) = (nI (2 * (k + 1))) from (by rw [Nat.mul_add])]; exact hl
        refine lv_goto (tgt := 2) hx hb dX2_streetBetween_59 (by decide) ?_
        exact ih2 (k + 1) ls ⟨lv_sub hl [1, 2, 0] rfl, (by omega), (fun j hj => (Nat.lt_succ_iff_lt_or_eq.mp hj).elim (fun q => hno j q) (fun q => by subst q; exact mtc_no (by omega)))⟩ (by first | omega | (dsimp only; omega))
      · have c_38 := (nc_eq9 (by omega) (by omega) c_38)
        obtain ⟨tE, hZ, hT⟩ := hX.2.2.2.1
        refine va_gets hx hb hZ hS hown (hts _ wd5_5) (fun _ h9 => h9) dX2_streetBetween_41 ?_
        refine lv_iload_n hx hb dX2_streetBetween_44 rfl (lv_at hl 2 rfl) ?_
        refine lv_iconst (v := (nI 1)) hx hb dX2_streetBetween_45 (by decide) ?_
        refine lv_iadd hx hb dX2_streetBetween_46 ?_
        refine ti (nI_add (2 * k) 1) ?_
        refine va_ti (v := .int (nI (endsV ((2 * k) + 1)))) hx hb hT hS (vp_in_nI (by omega) (by omega)) (by rw [nI_clamp (by omega)]; rfl) dX2_streetBetween_47 ?_
        refine lv_iload_n hx hb dX2_streetBetween_48 rfl (lv_at hl 0 rfl) ?_
        refine lv_icmp_ne (tgt := 56) hx hb dX2_streetBetween_49 (by decide) (fun c_49 => ?_) (fun c_49 => ?_)
        · have c_49 := (nc_ne9 (by omega) (by omega) c_49)
          refine lv_iinc (v := (nI ((2 * k) + 2))) (lv' := [(2, .int (nI ((2 * k) + 2))), (0, .int (nI a)), (1, .int (nI b))]) hx hb dX2_streetBetween_56 hl (k := 2) rfl (nI_add (2 * k) 2) (by decide) rfl (fun ls hl => ?_)
          have hl : lv_has ls 3 [(2, .int (nI (2 * (k + 1)))), (0, .int (nI a)), (1, .int (nI b))] := by rw [← show (nI ((2 * k) + 2)) = (nI (2 * (k + 1))) from (by rw [Nat.mul_add])]; exact hl
          refine lv_goto (tgt := 2) hx hb dX2_streetBetween_59 (by decide) ?_
          exact ih2 (k + 1) ls ⟨lv_sub hl [1, 2, 0] rfl, (by omega), (fun j hj => (Nat.lt_succ_iff_lt_or_eq.mp hj).elim (fun q => hno j q) (fun q => by subst q; exact mtc_no (by omega)))⟩ (by first | omega | (dsimp only; omega))
        · have c_49 := (nc_eq9 (by omega) (by omega) c_49)
          refine lv_iload_n hx hb dX2_streetBetween_52 rfl (lv_at hl 2 rfl) ?_
          refine lv_iconst (v := (nI 2)) hx hb dX2_streetBetween_53 (by decide) ?_
          refine lv_idiv hx hb dX2_streetBetween_54 (nI_ne0 (by omega) (by omega)) ?_
          refine ti (pk_div (a := (2 * k)) (d := 2) (by omega) (by omega) (by omega)) ?_
          refine ti (show (nI ((2 * k) / 2)) = (nI k) from (by rw [show 2 * k / 2 = k by omega])) ?_
          exact rd_i (congrArg nI (sbt_hit k hk17 a ha b hb9 (mtc_yes (by omega))).symm) hx hb hr dX2_streetBetween_55 hlk
    · have c_18 := (nc_eq9 (by omega) (by omega) c_18)
      obtain ⟨tE, hZ, hT⟩ := hX.2.2.2.1
      refine va_gets hx hb hZ hS hown (hts _ wd5_5) (fun _ h9 => h9) dX2_streetBetween_21 ?_
      refine lv_iload_n hx hb dX2_streetBetween_24 rfl (lv_at hl 2 rfl) ?_
      refine lv_iconst (v := (nI 1)) hx hb dX2_streetBetween_25 (by decide) ?_
      refine lv_iadd hx hb dX2_streetBetween_26 ?_
      refine ti (nI_add (2 * k) 1) ?_
      refine va_ti (v := .int (nI (endsV ((2 * k) + 1)))) hx hb hT hS (vp_in_nI (by omega) (by omega)) (by rw [nI_clamp (by omega)]; rfl) dX2_streetBetween_27 ?_
      refine lv_iload_n hx hb dX2_streetBetween_28 rfl (lv_at hl 1 rfl) ?_
      refine lv_icmp_eq (tgt := 52) hx hb dX2_streetBetween_29 (by decide) (fun c_29 => ?_) (fun c_29 => ?_)
      · have c_29 := (nc_eq9 (by omega) (by omega) c_29)
        refine lv_iload_n hx hb dX2_streetBetween_52 rfl (lv_at hl 2 rfl) ?_
        refine lv_iconst (v := (nI 2)) hx hb dX2_streetBetween_53 (by decide) ?_
        refine lv_idiv hx hb dX2_streetBetween_54 (nI_ne0 (by omega) (by omega)) ?_
        refine ti (pk_div (a := (2 * k)) (d := 2) (by omega) (by omega) (by omega)) ?_
        refine ti (show (nI ((2 * k) / 2)) = (nI k) from (by rw [show 2 * k / 2 = k by omega])) ?_
        exact rd_i (congrArg nI (sbt_hit k hk17 a ha b hb9 (mtc_yes (by omega))).symm) hx hb hr dX2_streetBetween_55 hlk
      · have c_29 := (nc_ne9 (by omega) (by omega) c_29)
        obtain ⟨tE, hZ, hT⟩ := hX.2.2.2.1
        refine va_gets hx hb hZ hS hown (hts _ wd5_5) (fun _ h9 => h9) dX2_streetBetween_32 ?_
        refine lv_iload_n hx hb dX2_streetBetween_35 rfl (lv_at hl 2 rfl) ?_
        refine va_ti (v := .int (nI (endsV (2 * k)))) hx hb hT hS (vp_in_nI (by omega) (by omega)) (by rw [nI_clamp (by omega)]; rfl) dX2_streetBetween_36 ?_
        refine lv_iload_n hx hb dX2_streetBetween_37 rfl (lv_at hl 1 rfl) ?_
        refine lv_icmp_ne (tgt := 56) hx hb dX2_streetBetween_38 (by decide) (fun c_38 => ?_) (fun c_38 => ?_)
        · have c_38 := (nc_ne9 (by omega) (by omega) c_38)
          refine lv_iinc (v := (nI ((2 * k) + 2))) (lv' := [(2, .int (nI ((2 * k) + 2))), (0, .int (nI a)), (1, .int (nI b))]) hx hb dX2_streetBetween_56 hl (k := 2) rfl (nI_add (2 * k) 2) (by decide) rfl (fun ls hl => ?_)
          have hl : lv_has ls 3 [(2, .int (nI (2 * (k + 1)))), (0, .int (nI a)), (1, .int (nI b))] := by rw [← show (nI ((2 * k) + 2)) = (nI (2 * (k + 1))) from (by rw [Nat.mul_add])]; exact hl
          refine lv_goto (tgt := 2) hx hb dX2_streetBetween_59 (by decide) ?_
          exact ih2 (k + 1) ls ⟨lv_sub hl [1, 2, 0] rfl, (by omega), (fun j hj => (Nat.lt_succ_iff_lt_or_eq.mp hj).elim (fun q => hno j q) (fun q => by subst q; exact mtc_no (by omega)))⟩ (by first | omega | (dsimp only; omega))
        · have c_38 := (nc_eq9 (by omega) (by omega) c_38)
          obtain ⟨tE, hZ, hT⟩ := hX.2.2.2.1
          refine va_gets hx hb hZ hS hown (hts _ wd5_5) (fun _ h9 => h9) dX2_streetBetween_41 ?_
          refine lv_iload_n hx hb dX2_streetBetween_44 rfl (lv_at hl 2 rfl) ?_
          refine lv_iconst (v := (nI 1)) hx hb dX2_streetBetween_45 (by decide) ?_
          refine lv_iadd hx hb dX2_streetBetween_46 ?_
          refine ti (nI_add (2 * k) 1) ?_
          refine va_ti (v := .int (nI (endsV ((2 * k) + 1)))) hx hb hT hS (vp_in_nI (by omega) (by omega)) (by rw [nI_clamp (by omega)]; rfl) dX2_streetBetween_47 ?_
          refine lv_iload_n hx hb dX2_streetBetween_48 rfl (lv_at hl 0 rfl) ?_
          refine lv_icmp_ne (tgt := 56) hx hb dX2_streetBetween_49 (by decide) (fun c_49 => ?_) (fun c_49 => ?_)
          · have c_49 := (nc_ne9 (by omega) (by omega) c_49)
            refine lv_iinc (v := (nI ((2 * k) + 2))) (lv' := [(2, .int (nI ((2 * k) + 2))), (0, .int (nI a)), (1, .int (nI b))]) hx hb dX2_streetBetween_56 hl (k := 2) rfl (nI_add (2 * k) 2) (by decide) rfl (fun ls hl => ?_)
            have hl : lv_has ls 3 [(2, .int (nI (2 * (k + 1)))), (0, .int (nI a)), (1, .int (nI b))] := by rw [← show (nI ((2 * k) + 2)) = (nI (2 * (k + 1))) from (by rw [Nat.mul_add])]; exact hl
            refine lv_goto (tgt := 2) hx hb dX2_streetBetween_59 (by decide) ?_
            exact ih2 (k + 1) ls ⟨lv_sub hl [1, 2, 0] rfl, (by omega), (fun j hj => (Nat.lt_succ_iff_lt_or_eq.mp hj).elim (fun q => hno j q) (fun q => by subst q; exact mtc_no (by omega)))⟩ (by first | omega | (dsimp only; omega))
          · have c_49 := (nc_eq9 (by omega) (by omega) c_49)
            refine lv_iload_n hx hb dX2_streetBetween_52 rfl (lv_at hl 2 rfl) ?_
            refine lv_iconst (v := (nI 2)) hx hb dX2_streetBetween_53 (by decide) ?_
            refine lv_idiv hx hb dX2_streetBetween_54 (nI_ne0 (by omega) (by omega)) ?_
            refine ti (pk_div (a := (2 * k)) (d := 2) (by omega) (by omega) (by omega)) ?_
            refine ti (show (nI ((2 * k) / 2)) = (nI k) from (by rw [show 2 * k / 2 = k by omega])) ?_
            exact rd_i (congrArg nI (sbt_hit k hk17 a ha b hb9 (mtc_yes (by omega))).symm) hx hb hr dX2_streetBetween_55 hlk
