/-! READING: every character, and the loop over them -/
section XS4
variable {S : RS} {vs fs ks ps sq ls : Nat → Int32} {c : Nat}
theorem nI_10 {a b : Nat} : nI a * 10 + nI b = nI (a * 10 + b) := by rw [c_10, pk_mul, nI_add]
theorem RX_dg {t : Nat} {k w f : Nat → Nat} (h : RX t k w f ks vs fs ps sq ls) (h0 : 0 < t) (h1 : k (t - 1) = 1) (h9 : w (t - 1) ≤ 9) {v : Nat} (hv : v ≤ 9) : RX t k (va_up w (t - 1) (10 * w (t - 1) + v)) f ks (upd vs (t - 1) (nI (10 * w (t - 1) + v))) fs ps sq ls := by
  obtain ⟨h2, h3, h4⟩ := h
  refine ⟨fun p hp => ?_, h3, h4⟩
  obtain ⟨a1, a2, a3, a4, a5⟩ := h2 p hp
  by_cases e : p = t - 1
  · subst e
    rw [x_as, x_us]
    refine ⟨a1, rfl, a3, ?_, a5⟩
    unfold FSk at a4 ⊢
    omega
  · rw [x_an e, x_un e]
    exact ⟨a1, a2, a3, a4, a5⟩
theorem xs_store (h : RX S.1 S.2.1 S.2.2.1 S.2.2.2.1 ks vs fs ps sq ls) (hM : RM S) (hL : S.2.2.2.2.1 = true) (hc : c < 65536) :
    Ok (fitsIn S vs fs ks ps sq ls c) (XQ (nx S c)) := by
  obtain ⟨b1, b2, b3, b4, b5⟩ := RX_b h
  have b5' : dd S ≤ 5 := b5
  have b4' : S.1 + dd S ≤ 24 := b4
  have hX : XR S (nI S.1) (nI (NS S.2.1 S.1)) (nI (MS S.2.1 S.1)) (nI (dd S)) (bI S.2.2.2.2.1) (bI S.2.2.2.2.2) vs fs ks ps sq ls := ⟨rfl, rfl, rfl, rfl, rfl, rfl, h⟩
  obtain ⟨m1, m2⟩ := hM.1 hL
  unfold fitsIn g_X6_fits nx
  rw [hL, m2, if_pos rfl]
  refine ok_f (by decide) ?_
  refine ok_be (k_letter hc) ?_
  by_cases hl : ltr c = true
  · have hl' := inb1.mp hl
    rw [if_pos hl]
    refine ok_f (by rw [hl]; decide) ?_
    have hs : nI c - 97 = nI (c - 97) := pk_sub (b := 97) (by omega)
    rw [hs]
    obtain ⟨n, hn⟩ : ∃ n, dd S = n + 1 := ⟨dd S - 1, by omega⟩
    have e : g_X6_fitsStore (nI S.1) (nI (NS S.2.1 S.1)) (nI (MS S.2.1 S.1)) (nI (dd S)) fs ks vs ps sq ls (nI (c - 97)) = some (nI 1, nI (S.1 + 1), nI (NS S.2.1 S.1 + 1), nI (mx (MS S.2.1 S.1) n), nI n, upd fs S.1 (nI 61), upd ks S.1 (nI 7), upd vs S.1 (nI (c - 97)), upd ps S.1 (sq n), sq, upd ls S.1 (-1)) := by
      unfold g_X6_fitsStore
      rw [hn]
      have := ft10 (t := S.1) (ms := MS S.2.1 S.1) (n := n) (q := 7) (c := 61) (v := c - 97) (fs := fs) (ks := ks) (vs := vs) (ps := ps) (sq := sq) (ls := ls) b2 (by omega) (by omega) (by omega)
      rw [e_gl, show nI (NS S.2.1 S.1) + 1 = nI (NS S.2.1 S.1 + 1) from nI_add _ 1]
      exact (e_gb this).trans (e_gc rfl)
    refine ok_be e (ok_f (show ¬ nI 1 = 0 by decide) (ok_s (XQ_s rfl ?_)))
    have := XR_push hX (q := 7) (v := c - 97) (c := 61) (d := false) (by unfold FSk; omega) (by rw [fnd_7]; omega) (by simp [fnd, ly]; omega) (by simp [fnd, ly]; omega) rfl rfl rfl (ps' := upd ps S.1 (sq n)) (fun p hp => x_un (by omega)) (fun z => by rw [x_us, fnd_7, hn]; rfl) (ls' := upd ls S.1 (-1)) (fun p hp => x_un (by omega)) (fun z => absurd z (by decide)) (sq' := sq) (fun i hi => rfl) (fun z => absurd rfl z)
    rw [show dd S - fnd 7 + ly 7 = n by rw [hn]; rfl] at this
    exact this
  · rw [if_neg hl]
    exact ok_t (by rw [Bool.not_eq_true] at hl; rw [hl]; rfl) (ok_s (XQ_n rfl))
theorem xs (h : RX S.1 S.2.1 S.2.2.1 S.2.2.2.1 ks vs fs ps sq ls) (hM : RM S) (hc : c < 65536) :
    Ok (fitsIn S vs fs ks ps sq ls c) (XQ (nx S c)) := by
  by_cases hL : S.2.2.2.2.1 = true
  · exact xs_store h hM hL hc
  · have hL' : S.2.2.2.2.1 = false := by revert hL; cases S.2.2.2.2.1 <;> simp
    by_cases hd : dgt c = true
    · obtain ⟨b1, b2, b3, b4, b5⟩ := RX_b h
      have b5' : dd S ≤ 5 := b5
      have b4' : S.1 + dd S ≤ 24 := b4
      have hX : XR S (nI S.1) (nI (NS S.2.1 S.1)) (nI (MS S.2.1 S.1)) (nI (dd S)) (bI S.2.2.2.2.1) (bI S.2.2.2.2.2) vs fs ks ps sq ls := ⟨rfl, rfl, rfl, rfl, rfl, rfl, h⟩
      have hd' := inb2.mp hd
      unfold fitsIn g_X6_fits nx
      rw [hL', if_neg Bool.false_ne_true, if_pos hd]
      refine ok_t rfl (ok_f (nI_nlt (a := c) (b := 48) (by omega) (by omega)) (ok_f (nI_nlt (a := 57) (b := c) (by omega) (by omega)) ?_))
      unfold g_X6_fitsDigit
      have hs : nI c - 48 = nI (c - 48) := pk_sub (b := 48) (by omega)
      rw [hs]
      by_cases hA : S.2.2.2.2.2 = true
      · obtain ⟨m0, m1, m2⟩ := hM.2 hA
        obtain ⟨t, ht⟩ : ∃ t, S.1 = t + 1 := ⟨S.1 - 1, by omega⟩
        rw [if_pos hA, hA]
        have e : (nI S.1 - 1 : Int32) = nI (S.1 - 1) := pk_sub (b := 1) (by omega)
        refine ok_be (x := (1, nI S.1, nI (MS S.2.1 S.1), nI (dd S), 0, upd vs (S.1 - 1) (nI (10 * S.2.2.1 (S.1 - 1) + (c - 48))), fs, ks, ps, sq, ls)) ?_ (ok_c rfl (ok_s (XQ_s rfl ?_)))
        · have hv : vs (S.1 - 1) = nI (S.2.2.1 (S.1 - 1)) := (h.1 (S.1 - 1) (by omega)).2.1
          rw [e]
          have e1 : bI true = nI 1 := rfl
          rw [e1]
          simp (disch := omega) only [e_gl, e_gcT, c_0, c_24, x_eqF, x_ltF, x_leF, ↓reduceIte, x_inb, x_cl, hv]
          rw [nI_10, Nat.mul_comm]
        · exact ⟨rfl, rfl, rfl, rfl, rfl, rfl, RX_dg h m0 m1 m2 (by omega)⟩
      · have hA' : S.2.2.2.2.2 = false := by revert hA; cases S.2.2.2.2.2 <;> simp
        rw [hA', if_neg Bool.false_ne_true]
        by_cases hr : rm1 S = true
        · obtain ⟨r1, r2⟩ := rm1_iff.mp hr
          rw [if_pos hr]
          have e : g_X6_fitsDigit_b53 (nI S.1) (nI (MS S.2.1 S.1)) (nI (dd S)) vs fs ks ps sq ls (nI c) (nI (c - 48)) = some (nI 1, nI (S.1 + 1), nI (mx (MS S.2.1 S.1) (dd S + 1)), nI (dd S + 1), 1, upd vs S.1 (nI (c - 48)), upd fs S.1 (nI c), upd ks S.1 (nI 1), upd ps S.1 (-1), upd sq (dd S) (nI S.1), upd ls S.1 (-1)) := by
            unfold g_X6_fitsDigit_b53
            have := ft01 (t := S.1) (ms := MS S.2.1 S.1) (n := dd S) (q := 1) (c := c) (v := c - 48) (fs := fs) (ks := ks) (vs := vs) (ps := ps) (sq := sq) (ls := ls) b2 r1 r2 hc
            exact (e_gb this).trans (e_gc rfl)
          refine ok_be (x := (nI 1, nI (S.1 + 1), nI (mx (MS S.2.1 S.1) (dd S + 1)), nI (dd S + 1), 1, upd vs S.1 (nI (c - 48)), upd fs S.1 (nI c), upd ks S.1 (nI 1), upd ps S.1 (-1), upd sq (dd S) (nI S.1), upd ls S.1 (-1))) ?_ (ok_c rfl (ok_s (XQ_s rfl ?_)))
          · exact e
          · exact XR_push hX (q := 1) (v := c - 48) (c := c) (d := true) (by unfold FSk; omega) (Nat.zero_le _) (by simp [fnd, ly]; omega) (by simp [fnd, ly]; omega) rfl rfl rfl (fun p hp => x_un (by omega)) (fun z => absurd z (by decide)) (fun p hp => x_un (by omega)) (fun z => absurd z (by decide)) (fun i hi => x_un (by simp [fnd] at hi; omega)) (fun _ => x_us)
        · rw [if_neg hr]
          have e : g_X6_fitsDigit_b53 (nI S.1) (nI (MS S.2.1 S.1)) (nI (dd S)) vs fs ks ps sq ls (nI c) (nI (c - 48)) = some (nI 0, nI S.1, nI (MS S.2.1 S.1), nI (dd S), 1, vs, fs, ks, ps, sq, ls) := by
            unfold g_X6_fitsDigit_b53
            have := ft01F (t := S.1) (ms := MS S.2.1 S.1) (n := dd S) (q := 1) (c := c) (v := c - 48) (fs := fs) (ks := ks) (vs := vs) (ps := ps) (sq := sq) (ls := ls) (fun z => hr (rm1_iff.mpr z)) b5' b1
            exact (e_gb this).trans (e_gc rfl)
          refine ok_be (x := (nI 0, nI S.1, nI (MS S.2.1 S.1), nI (dd S), 1, vs, fs, ks, ps, sq, ls)) ?_ (ok_c rfl (ok_s (XQ_n rfl)))
          exact e
    · have hd' : dgt c = false := by revert hd; cases dgt c <;> simp
      have key := xs_b55 h hL' hd' hc
      have ee : fitsIn S vs fs ks ps sq ls c = g_X6_fits_b55 (nI S.1) (nI (NS S.2.1 S.1)) (nI (MS S.2.1 S.1)) (nI (dd S)) (nI 0) vs fs ks ps sq ls (nI c) := by
        unfold fitsIn g_X6_fits
        rw [hL']
        refine (if_pos rfl).trans ?_
        by_cases h1 : c < 48
        · exact if_pos (nI_lt (b := 48) h1 (by omega))
        · have h2 : 57 < c := by
            rcases Nat.lt_or_ge 57 c with h2 | h2
            · exact h2
            · exact absurd (inb2.mpr ⟨by omega, h2⟩) hd
          exact (if_neg (nI_nlt (a := c) (b := 48) (by omega) (by omega))).trans (if_pos (nI_lt (a := 57) h2 (by omega)))
      rw [ee]
      exact key
end XS4
