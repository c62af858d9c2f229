/-! READING: the class's reader takes a character as nx says -/
section XS3
variable {S : RS} {vs fs ks ps sq ls : Nat → Int32} {c : Nat}
abbrev fitsIn (S : RS) (vs fs ks ps sq ls : Nat → Int32) (c : Nat) : Option XO := g_X6_fits (nI S.1) (nI (NS S.2.1 S.1)) (nI (MS S.2.1 S.1)) (nI (dd S)) (bI S.2.2.2.2.1) (bI S.2.2.2.2.2) vs fs ks ps sq ls (nI c)
theorem xs_b55 (h : RX S.1 S.2.1 S.2.2.1 S.2.2.2.1 ks vs fs ps sq ls) (hL : S.2.2.2.2.1 = false) (hd : dgt c = false) (hc : c < 65536) :
    Ok (g_X6_fits_b55 (nI S.1) (nI (NS S.2.1 S.1)) (nI (MS S.2.1 S.1)) (nI (dd S)) (nI 0) vs fs ks ps sq ls (nI c)) (XQ (nx S c)) := by
  obtain ⟨b1, b2, b3, b4, b5⟩ := RX_b h
  have b5' : dd S ≤ 5 := b5
  have b4' : S.1 + dd S ≤ 24 := b4
  have hX : XR S (nI S.1) (nI (NS S.2.1 S.1)) (nI (MS S.2.1 S.1)) (nI (dd S)) (bI S.2.2.2.2.1) (bI S.2.2.2.2.2) vs fs ks ps sq ls := ⟨rfl, rfl, rfl, rfl, rfl, rfl, h⟩
  unfold g_X6_fits_b55 nx
  rw [hL, hd, if_neg Bool.false_ne_true, if_neg Bool.false_ne_true]
  refine ok_be (k_letter hc) ?_
  by_cases hl : ltr c = true
  · have hl' := inb1.mp hl
    rw [if_pos hl]
    refine ok_f (by rw [hl]; decide) ?_
    have hs : nI c - 97 = nI (c - 97) := pk_sub (b := 97) (by omega)
    rw [hs]
    by_cases hr : rm1 S = true
    · obtain ⟨r1, r2⟩ := rm1_iff.mp hr
      rw [if_pos hr]
      refine ok_be (ft01 b2 r1 r2 hc) (ok_c rfl (ok_s (XQ_s rfl ?_)))
      exact XR_push hX (q := 0) (v := c - 97) (c := c) (d := false) (Or.inl ⟨rfl, by omega, by omega⟩) (Nat.zero_le _) (by simp [fnd, ly]; omega) (by simp [fnd, ly]; omega) rfl rfl rfl (fun p hp => x_un (by omega)) (fun z => absurd z (by decide)) (fun p hp => x_un (by omega)) (fun z => absurd z (by decide)) (fun i hi => x_un (by simp [fnd] at hi; omega)) (fun _ => x_us)
    · rw [if_neg hr]
      refine ok_be (ft01F (fun z => hr (rm1_iff.mpr z)) b5' b1) (ok_c rfl (ok_s (XQ_n rfl)))
  · rw [if_neg hl]
    refine ok_t (by rw [Bool.not_eq_true] at hl; rw [hl]; rfl) ?_
    simp only [c_33, c_42, c_43, c_45, c_61, c_126]
    have ne : ∀ j : Nat, j < 65536 → c ≠ j → ¬ nI c = nI j := fun j hj hne z => hne (nI_inj (by omega) (by omega) z)
    by_cases e33 : c = 33
    · subst e33
      rw [if_neg (show ¬ ((33:Nat) = 43 ∨ (33:Nat) = 45 ∨ (33:Nat) = 42) by decide), if_pos (Or.inr rfl)]
      refine ok_t rfl ?_
      by_cases hr : 1 ≤ dd S ∧ S.1 + 1 + dd S ≤ 24
      · obtain ⟨n, hn⟩ : ∃ n, dd S = n + 1 := ⟨dd S - 1, by omega⟩
        rw [if_pos hr, hn]
        refine ok_be (ft11 b2 (by omega) (by omega) (by omega)) (ok_c rfl (ok_s (XQ_s rfl ?_)))
        have := XR_push hX (q := 6) (v := 0) (c := 33) (d := false) (by unfold FSk; omega) (by rw [fnd_6]; omega) (by simp [fnd, ly]; omega) (by simp [fnd, ly]; omega) rfl rfl rfl (ps' := upd ps S.1 (sq n)) (fun p hp => x_un (by omega)) (fun z => by rw [x_us, fnd_6, hn]; rfl) (ls' := upd ls S.1 (-1)) (fun p hp => x_un (by omega)) (fun z => absurd z (by decide)) (sq' := upd sq n (nI S.1)) (fun i hi => x_un (by simp [fnd] at hi; omega)) (fun _ => by rw [fnd_6, hn]; exact x_us)
        rw [show dd S - fnd 6 + ly 6 = n + 1 by rw [hn]; rfl] at this
        exact this
      · rw [if_neg hr]
        refine ok_be (ft11F (by omega) b5' b1) (ok_c rfl (ok_s (XQ_n rfl)))
    · refine ok_f (ne 33 (by omega) e33) ?_
      by_cases ho : c = 43 ∨ c = 45 ∨ c = 42
      · rw [if_pos ho]
        by_cases hr : 2 ≤ dd S
        · obtain ⟨n, hn⟩ : ∃ n, dd S = n + 2 := ⟨dd S - 2, by omega⟩
          rw [if_pos hr]
          have key : ∀ q : Nat, q = opk c → Ok (gb (g_X6_fitsToken (nI S.1) (nI (MS S.2.1 S.1)) (nI (dd S)) fs ks vs ps sq ls (nI q) (nI c) (0 : Int32) (2 : Int32) (1 : Int32)) fun r6 => gc (bo r6.1) <| some ((r6.1, r6.2.1, nI (NS S.2.1 S.1), r6.2.2.1, r6.2.2.2.1, nI 0, (0 : Int32), r6.2.2.2.2.2.2.1, r6.2.2.2.2.1, r6.2.2.2.2.2.1, r6.2.2.2.2.2.2.2.1, r6.2.2.2.2.2.2.2.2.1, r6.2.2.2.2.2.2.2.2.2) : XO)) (XQ (some (push S (opk c) 0 c false))) := by
            intro q hq
            rw [hn]
            refine ok_be (ft21 (v := 0) b2 (by omega) (by omega) hc) (ok_c rfl (ok_s (XQ_s rfl ?_)))
            have hfq : fnd q = 2 := by rw [hq]; rcases ho with e | e | e <;> subst e <;> rfl
            have hlq : ly q = 1 := by rw [hq]; rcases ho with e | e | e <;> subst e <;> rfl
            have hFq : FSk q 0 c := by rw [hq]; rcases ho with e | e | e <;> subst e <;> (unfold FSk; decide)
            have h7q : q ≠ 7 := fun z => by rw [z] at hlq; exact absurd hlq (by decide)
            have := XR_push hX (q := q) (v := 0) (c := c) (d := false) hFq (by rw [hfq]; omega) (by rw [hfq, hlq]; omega) (by rw [hfq, hlq]; omega) rfl rfl rfl (ps' := upd ps S.1 (sq n)) (fun p hp => x_un (by omega)) (fun z => by rw [x_us, hfq, hn]; rfl) (ls' := upd ls S.1 (sq (n + 1))) (fun p hp => x_un (by omega)) (fun z => by rw [x_us, hn]; rfl) (sq' := upd sq n (nI S.1)) (fun i hi => x_un (by rw [hfq] at hi; omega)) (fun _ => by rw [hfq, hn]; exact x_us)
            rw [show dd S - fnd q + ly q = n + 1 by rw [hfq, hlq, hn]; omega, if_neg h7q, hq] at this
            rw [hq]
            exact this
          rcases ho with e | e | e
          · subst e
            exact ok_f (ne 42 (by omega) (by omega)) (ok_t rfl (key 2 rfl))
          · subst e
            exact ok_f (ne 42 (by omega) (by omega)) (ok_f (ne 43 (by omega) (by omega)) (ok_t rfl (key 3 rfl)))
          · subst e
            exact ok_t rfl (key 4 rfl)
        · rw [if_neg hr]
          have key : ∀ q : Nat, Ok (gb (g_X6_fitsToken (nI S.1) (nI (MS S.2.1 S.1)) (nI (dd S)) fs ks vs ps sq ls (nI q) (nI c) (0 : Int32) (2 : Int32) (1 : Int32)) fun r6 => gc (bo r6.1) <| some ((r6.1, r6.2.1, nI (NS S.2.1 S.1), r6.2.2.1, r6.2.2.2.1, nI 0, (0 : Int32), r6.2.2.2.2.2.2.1, r6.2.2.2.2.1, r6.2.2.2.2.2.1, r6.2.2.2.2.2.2.2.1, r6.2.2.2.2.2.2.2.2.1, r6.2.2.2.2.2.2.2.2.2) : XO)) (XQ none) := fun q => ok_be (ft21F (v := 0) (by omega)) (ok_c rfl (ok_s (XQ_n rfl)))
          rcases ho with e | e | e
          · subst e
            exact ok_f (ne 42 (by omega) (by omega)) (ok_t rfl (key 2))
          · subst e
            exact ok_f (ne 42 (by omega) (by omega)) (ok_f (ne 43 (by omega) (by omega)) (ok_t rfl (key 3)))
          · subst e
            exact ok_t rfl (key 4)
      · rw [if_neg ho]
        refine ok_f (ne 42 (by omega) (by omega)) (ok_f (ne 43 (by omega) (by omega)) (ok_f (ne 45 (by omega) (by omega)) ?_))
        by_cases e61 : c = 61
        · subst e61
          rw [if_neg (show ¬ ((61:Nat) = 126 ∨ (61:Nat) = 33) by decide), if_pos rfl]
          refine ok_t rfl ?_
          by_cases hr : 1 ≤ dd S
          · rw [if_pos hr]
            refine ok_f (show ¬ nI (dd S) ≤ (0:Int32) from nI_ge (show 0 < dd S by omega) (by omega)) (ok_s (XQ_s rfl ?_))
            exact ⟨rfl, rfl, rfl, rfl, rfl, rfl, h⟩
          · rw [if_neg hr]
            exact ok_t (show nI (dd S) ≤ (0:Int32) from nI_le (b := 0) (by omega) (by omega)) (ok_s (XQ_n rfl))
        · refine ok_f (ne 61 (by omega) e61) ?_
          by_cases e126 : c = 126
          · subst e126
            rw [if_pos (Or.inl rfl)]
            refine ok_t rfl ?_
            by_cases hr : 1 ≤ dd S ∧ S.1 + 1 + dd S ≤ 24
            · obtain ⟨n, hn⟩ : ∃ n, dd S = n + 1 := ⟨dd S - 1, by omega⟩
              rw [if_pos hr, hn]
              refine ok_be (ft11 (v := 0) b2 (by omega) (by omega) (by omega)) (ok_c rfl (ok_s (XQ_s rfl ?_)))
              have := XR_push hX (q := 5) (v := 0) (c := 126) (d := false) (by unfold FSk; omega) (by rw [fnd_5]; omega) (by simp [fnd, ly]; omega) (by simp [fnd, ly]; omega) rfl rfl rfl (ps' := upd ps S.1 (sq n)) (fun p hp => x_un (by omega)) (fun z => by rw [x_us, fnd_5, hn]; rfl) (ls' := upd ls S.1 (-1)) (fun p hp => x_un (by omega)) (fun z => absurd z (by decide)) (sq' := upd sq n (nI S.1)) (fun i hi => x_un (by simp [fnd] at hi; omega)) (fun _ => by rw [fnd_5, hn]; exact x_us)
              rw [show dd S - fnd 5 + ly 5 = n + 1 by rw [hn]; rfl] at this
              exact this
            · rw [if_neg hr]
              exact ok_be (ft11F (v := 0) (by omega) b5' b1) (ok_c rfl (ok_s (XQ_n rfl)))
          · rw [if_neg (show ¬ (c = 126 ∨ c = 33) by omega), if_neg e61]
            exact ok_f (ne 126 (by omega) e126) (ok_s (XQ_n rfl))
end XS3
