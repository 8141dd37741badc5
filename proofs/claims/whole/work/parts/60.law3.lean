/-! THE LAW'S LOOP: what holds between its rounds. -/
theorem fI_mono {a c : Nat} {q : Sc} {σ : Nat → Nat} {Hh : Nat → Nat → Nat} {n : Nat} {K : Nat → Nat → Nat} {fl : Nat → Bool} {tx : Nat → Nat} {ln : Nat} (h : fI a q σ Hh n K fl tx ln) (h1 : a ≤ c) (h2 : c ≤ 100000) : fI c q σ Hh n K fl tx ln := by
  obtain ⟨b, rt, o, R, r0, r1, p, lt, pt, pn⟩ := q
  obtain ⟨hwf, hbr, ho, hn, hH, hK0, hK1, htx, hln⟩ := h
  exact ⟨WF_mono hwf h1 h2, hbr, ho, hn, fun k hk => isB_mono (hH k hk) h1 h2, fun e => isB_mono (hK0 e) h1 h2, fun e => isB_mono (hK1 e) h1 h2, htx, hln⟩
theorem mI_mono {a c : Nat} {q : Mc} {σ : Nat → Nat} {Hh : Nat → Nat → Nat} {n : Nat} {K : Nat → Nat → Nat} {fl : Nat → Bool} {tx : Nat → Nat} {ln : Nat} (h : mI a q σ Hh n K fl tx ln) (h1 : a ≤ c) (h2 : c ≤ 100000) : mI c q σ Hh n K fl tx ln := ⟨WF_mono h.1 h1 h2, h.2⟩
/-- what undo, restore bring back -/
theorem fI_und {bd : Nat} {q : Sc} {σ : Nat → Nat} {Hh : Nat → Nat → Nat} {n : Nat} {K : Nat → Nat → Nat} {fl : Nat → Bool} {tx : Nat → Nat} {ln : Nat} (h : fI bd q σ Hh n K fl tx ln) : 1 ≤ n → WF bd (Hh (n - 1)) := by
  obtain ⟨b, rt, o, R, r0, r1, p, lt, pt, pn⟩ := q
  obtain ⟨hwf, hbr, ho, hn, hH, hK0, hK1, htx, hln⟩ := h
  exact fun h1 => (hH (n - 1) (by omega)).1
theorem fI_kep {bd : Nat} {q : Sc} {σ : Nat → Nat} {Hh : Nat → Nat → Nat} {n : Nat} {K : Nat → Nat → Nat} {fl : Nat → Bool} {tx : Nat → Nat} {ln : Nat} (h : fI bd q σ Hh n K fl tx ln) : ∀ k, k < 2 → fl k = true → WF bd (K k) := by
  obtain ⟨b, rt, o, R, r0, r1, p, lt, pt, pn⟩ := q
  obtain ⟨hwf, hbr, ho, hn, hH, hK0, hK1, htx, hln⟩ := h
  intro k hk e
  rcases (show k = 0 ∨ k = 1 by omega) with rfl | rfl
  · exact (hK0 e).1
  · exact (hK1 e).1
/-- the two objects at the start -/
theorem fI_new {b1 : Nat → Nat → Int32} {Hh K : Nat → Nat → Nat} : fI 11880 (b1, bd0, 0, (fun _ => bd0), bd0, bd0, 0, 0, z9, 0) newS Hh 0 K (fun _ => false) z9 0 :=
  ⟨WF_mono WF_newS (by decide) (by decide), BR_newS, Nat.zero_lt_succ _, Nat.zero_le _, fun k hk => absurd hk (Nat.not_lt_zero _), fun e => Bool.noConfusion e, fun e => Bool.noConfusion e, fun _ => (by show 0 < 256; decide), Nat.zero_le _⟩
theorem mI_new {Hh K : Nat → Nat → Nat} : mI 11880 (z9, z9, z9, z9, z9, 0, 0, 0) newS Hh 0 K (fun _ => false) z9 0 :=
  ⟨WF_mono WF_newS (by decide) (by decide), Nat.zero_le _, fun k hk => absurd hk (Nat.not_lt_zero _), fun k _ e => Bool.noConfusion e, fun _ => (by show 0 < 256; decide), Nat.zero_le _⟩
theorem mQ_ad {cy : Nat → ClassId} {ma : Nat → Nat} {q q' : Mc} {σ σ' : Nat → Nat} {n n' : Nat} {fl fl' : Nat → Bool} {tx tx' : Nat → Nat} {ln ln' : Nat} : (mQ cy ma q' σ' n' fl' tx' ln').map Prod.fst = (mQ cy ma q σ n fl tx ln).map Prod.fst := rfl
theorem rkm_z {a b c f : Nat} (h : f = 0 ∨ 0 < rkm a b c f) (h0 : rkm a b c f = 0) : f = 0 := h.resolve_right (by omega)
