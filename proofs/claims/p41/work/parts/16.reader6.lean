/-! READING: what stays true of the tokens read so far; a whole text -/
def GS (S : RS) : Prop := (∀ p, p < S.1 → FSk (S.2.1 p) (S.2.2.1 p) (S.2.2.2.1 p) ∧ fnd (S.2.1 p) ≤ DD S.2.1 p ∧ DD S.2.1 (p + 1) ≤ 5) ∧ S.1 + dd S ≤ 24 ∧ RM S
theorem GS_0 : GS rs0 := ⟨fun p hp => absurd hp (Nat.not_lt_zero p), by decide, fun z => (by cases z), fun z => (by cases z)⟩
theorem GS_b {S : RS} (h : GS S) : S.1 ≤ 24 ∧ dd S ≤ 5 ∧ MS S.2.1 S.1 ≤ 5 ∧ NS S.2.1 S.1 ≤ S.1 := by
  obtain ⟨h1, h2, h3⟩ := h
  refine ⟨by omega, ?_, MS_le S.1 (fun q hq => (h1 q hq).2.2), NS_le _ _⟩
  show DD S.2.1 S.1 ≤ 5
  obtain ⟨t, k, w, f, a, b⟩ := S
  cases t with
  | zero => exact Nat.zero_le 5
  | succ t => exact (h1 t (Nat.lt_succ_self t)).2.2
theorem GS_push {S : RS} (h : GS S) {q v c : Nat} {d : Bool} (hF : FSk q v c) (hfd : fnd q ≤ dd S) (h5 : dd S - fnd q + ly q ≤ 5) (h24 : S.1 + 1 + (dd S - fnd q + ly q) ≤ 24) (hd : d = true → q = 1 ∧ v ≤ 9) : GS (push S q v c d) := by
  obtain ⟨h1, h2, h3⟩ := h
  have hD : ∀ p, p ≤ S.1 → DD (va_up S.2.1 S.1 q) p = DD S.2.1 p := fun p hp => DD_cg p (fun r hr => up_lt r (by omega))
  refine ⟨fun p hp => ?_, by rw [dd_push]; exact h24, fun z => (by cases z), fun z => ?_⟩
  · show FSk (va_up S.2.1 S.1 q p) (va_up S.2.2.1 S.1 v p) (va_up S.2.2.2.1 S.1 c p) ∧ fnd (va_up S.2.1 S.1 q p) ≤ DD (va_up S.2.1 S.1 q) p ∧ DD (va_up S.2.1 S.1 q) (p + 1) ≤ 5
    have hp' : p < S.1 + 1 := hp
    by_cases e : p = S.1
    · subst e
      rw [x_as, x_as, x_as, hD _ (Nat.le_refl _)]
      have := dd_push (S := S) (q := q) (v := v) (c := c) (d := d)
      refine ⟨hF, hfd, ?_⟩
      show dd (push S q v c d) ≤ 5
      rw [this]
      exact h5
    · rw [x_an e, x_an e, x_an e, hD p (by omega), hD (p + 1) (by omega)]
      exact h1 p (by omega)
  · obtain ⟨e1, e2⟩ := hd z
    show 0 < S.1 + 1 ∧ va_up S.2.1 S.1 q (S.1 + 1 - 1) = 1 ∧ va_up S.2.2.1 S.1 v (S.1 + 1 - 1) ≤ 9
    rw [Nat.add_sub_cancel, x_as, x_as]
    exact ⟨Nat.succ_pos _, e1, e2⟩
theorem opk_c {c : Nat} (h : c = 43 ∨ c = 45 ∨ c = 42) : fnd (opk c) = 2 ∧ ly (opk c) = 1 ∧ FSk (opk c) 0 c := by
  rcases h with e | e | e <;> subst e <;> exact ⟨rfl, rfl, by unfold FSk; decide⟩
theorem GS_nx {S S' : RS} {c : Nat} (h : GS S) (e : nx S c = some S') : GS S' := by
  obtain ⟨b1, b2, b3, b4⟩ := GS_b h
  obtain ⟨h1, h2, h3⟩ := h
  have hG : GS S := ⟨h1, h2, h3⟩
  unfold nx at e
  by_cases hL : S.2.2.2.2.1 = true
  · rw [if_pos hL] at e
    obtain ⟨m1, m2⟩ := h3.1 hL
    by_cases hl : ltr c = true
    · have hl' := inb1.mp hl
      rw [if_pos hl] at e
      cases e
      exact GS_push hG (by unfold FSk; omega) (by rw [fnd_7]; omega) (by simp [fnd, ly]; omega) (by simp [fnd, ly]; omega) (fun z => (by cases z))
    · rw [if_neg hl] at e; cases e
  · rw [if_neg hL] at e
    by_cases hd : dgt c = true
    · have hd' := inb2.mp hd
      rw [if_pos hd] at e
      by_cases hA : S.2.2.2.2.2 = true
      · rw [if_pos hA] at e
        cases e
        obtain ⟨m0, m1, m2⟩ := h3.2 hA
        refine ⟨fun p hp => ?_, h2, fun z => ⟨?_, rfl⟩, fun z => (by cases z)⟩
        · obtain ⟨a4, a5⟩ := h1 p hp
          refine ⟨?_, a5⟩
          show FSk (S.2.1 p) (va_up S.2.2.1 (S.1 - 1) (10 * S.2.2.1 (S.1 - 1) + (c - 48)) p) (S.2.2.2.1 p)
          by_cases e : p = S.1 - 1
          · subst e
            rw [x_as]
            unfold FSk at a4 ⊢
            omega
          · rw [x_an e]; exact a4
        · cases z
      · rw [if_neg hA] at e
        by_cases hr : rm1 S = true
        · obtain ⟨r1, r2⟩ := rm1_iff.mp hr
          rw [if_pos hr] at e
          cases e
          exact GS_push hG (by unfold FSk; omega) (Nat.zero_le _) (by simp [fnd, ly]; omega) (by simp [fnd, ly]; omega) (fun _ => ⟨rfl, by omega⟩)
        · rw [if_neg hr] at e; cases e
    · rw [if_neg hd] at e
      by_cases hl : ltr c = true
      · have hl' := inb1.mp hl
        rw [if_pos hl] at e
        by_cases hr : rm1 S = true
        · obtain ⟨r1, r2⟩ := rm1_iff.mp hr
          rw [if_pos hr] at e
          cases e
          exact GS_push hG (by unfold FSk; omega) (Nat.zero_le _) (by simp [fnd, ly]; omega) (by simp [fnd, ly]; omega) (fun z => (by cases z))
        · rw [if_neg hr] at e; cases e
      · rw [if_neg hl] at e
        by_cases ho : c = 43 ∨ c = 45 ∨ c = 42
        · rw [if_pos ho] at e
          obtain ⟨o1, o2, o3⟩ := opk_c ho
          by_cases hr : 2 ≤ dd S
          · rw [if_pos hr] at e
            cases e
            exact GS_push hG o3 (by rw [o1]; omega) (by rw [o1, o2]; omega) (by rw [o1, o2]; omega) (fun z => (by cases z))
          · rw [if_neg hr] at e; cases e
        · rw [if_neg ho] at e
          by_cases hu : c = 126 ∨ c = 33
          · rw [if_pos hu] at e
            by_cases hr : 1 ≤ dd S ∧ S.1 + 1 + dd S ≤ 24
            · rw [if_pos hr] at e
              cases e
              rcases hu with u | u
              · subst u
                exact GS_push (q := 5) hG (by unfold FSk; omega) (by rw [fnd_5]; omega) (by simp [fnd, ly]; omega) (by simp [fnd, ly]; omega) (fun z => (by cases z))
              · subst u
                exact GS_push (q := 6) hG (by unfold FSk; omega) (by rw [fnd_6]; omega) (by simp [fnd, ly]; omega) (by simp [fnd, ly]; omega) (fun z => (by cases z))
            · rw [if_neg hr] at e; cases e
          · rw [if_neg hu] at e
            by_cases h61 : c = 61
            · rw [if_pos h61] at e
              by_cases hr : 1 ≤ dd S
              · rw [if_pos hr] at e
                cases e
                exact ⟨h1, h2, fun _ => ⟨hr, rfl⟩, fun z => (by cases z)⟩
              · rw [if_neg hr] at e; cases e
            · rw [if_neg h61] at e; cases e
/-- a whole text, from a place on: where it stops, and what it has read -/
def rd (c : Nat → Nat) : Nat → Nat → RS → Nat × Option RS
  | 0, j, S => (j, some S)
  | m + 1, j, S => match nx S (c j) with
    | none => (j, none)
    | some S' => rd c m (j + 1) S'
/-- a text that reads to its end -/
def fin (S : RS) : Bool := decide (S.2.2.2.2.1 = false ∧ dd S = 0 ∧ 0 < NS S.2.1 S.1)
def eR (r : Nat × Option RS) : Int32 := match r.2 with
  | none => nI r.1
  | some S => if fin S = true then -1 else nI r.1
theorem rd_some {c : Nat → Nat} {m j : Nat} {S S' : RS} (e : nx S (c j) = some S') : rd c (m + 1) j S = rd c m (j + 1) S' := by
  show (match nx S (c j) with | none => (j, none) | some S' => rd c m (j + 1) S') = _
  rw [e]
theorem rd_none {c : Nat → Nat} {m j : Nat} {S : RS} (e : nx S (c j) = none) : rd c (m + 1) j S = (j, none) := by
  show (match nx S (c j) with | none => (j, none) | some S' => rd c m (j + 1) S') = _
  rw [e]
theorem rd_GS {c : Nat → Nat} : ∀ m j S, GS S → ∀ S', (rd c m j S).2 = some S' → GS S'
  | 0, j, S, h, S', e => by cases e; exact h
  | m + 1, j, S, h, S', e => by
    cases hx : nx S (c j) with
    | none => rw [rd_none hx] at e; cases e
    | some S'' => rw [rd_some hx] at e; exact rd_GS m (j + 1) S'' (GS_nx h hx) S' e
/-- what the class's reader leaves -/
def EQ6 (r : Nat × Option RS) (o : XO) : Prop := o.1 = eR r ∧ ∀ S', r.2 = some S' → XR S' o.2.1 o.2.2.1 o.2.2.2.1 o.2.2.2.2.1 o.2.2.2.2.2.1 o.2.2.2.2.2.2.1 o.2.2.2.2.2.2.2.1 o.2.2.2.2.2.2.2.2.1 o.2.2.2.2.2.2.2.2.2.1 o.2.2.2.2.2.2.2.2.2.2.1 o.2.2.2.2.2.2.2.2.2.2.2.1 o.2.2.2.2.2.2.2.2.2.2.2.2
theorem fits_cg {S : RS} {tk st ms sp aL aD x : Int32} {vs fs ks ps sq ls : Nat → Int32} {c : Nat} (h : XR S tk st ms sp aL aD vs fs ks ps sq ls) (hx : x = nI c) : g_X6_fits tk st ms sp aL aD vs fs ks ps sq ls x = fitsIn S vs fs ks ps sq ls c := by
  obtain ⟨e1, e2, e3, e4, e5, e6, _⟩ := h
  rw [e1, e2, e3, e4, e5, e6, hx]
theorem lE {n : Nat} {p1 : Nat → Int32} {c : Nat → Nat} (hc : ∀ j, c j < 65536) : ∀ (m F j : Nat) (S : RS) (fs ks ls ps sq vs : Nat → Int32) (tk st aL aD ms sp : Int32), m < F → j + m ≤ n → n < 2147483647 → (∀ i, i < j + m → p1 i = nI (c i)) → GS S → XR S tk st ms sp aL aD vs fs ks ps sq ls →
    Ok (g_X6_errorIn_b40 n p1 F fs ks ls ps sq vs tk st aL aD ms sp (nI (j + m)) (nI j)) (EQ6 (rd c m j S))
  | m, 0, j, S, _, _, _, _, _, _, _, _, _, _, _, _, h, _, _, _, _, _ => absurd h (Nat.not_lt_zero m)
  | 0, F + 1, j, S, fs, ks, ls, ps, sq, vs, tk, st, aL, aD, ms, sp, _, hn, hn', hp, hG, hX => by
    obtain ⟨b1, b2, b3, b4⟩ := GS_b hG
    unfold g_X6_errorIn_b40
    refine ok_t (nI_le (Nat.le_refl _) (by omega)) ?_
    have hX' := hX
    obtain ⟨e1, e2, e3, e4, e5, e6, _⟩ := hX'
    have hr : rd c 0 j S = (j, some S) := rfl
    have key : ∀ v : Int32, v = (if fin S = true then -1 else nI j) → EQ6 (rd c 0 j S) (v, tk, st, ms, sp, aL, aD, vs, fs, ks, ps, sq, ls) := fun v hv => ⟨hv, fun S' z => by cases z; exact hX⟩
    by_cases hs : NS S.2.1 S.1 = 0
    · refine ok_t (by rw [e2, hs]; decide) (ok_s (key _ ?_))
      rw [if_neg (show ¬ fin S = true by unfold fin; simp; omega)]
      rfl
    · refine ok_f (by rw [e2]; exact nI_ge (show 0 < _ by omega) (by omega)) ?_
      by_cases hd : dd S = 0
      · refine ok_t (by rw [e4, hd]; rfl) ?_
        by_cases hL : S.2.2.2.2.1 = true
        · refine ok_f (by rw [e5, hL]; decide) (ok_s (key _ ?_))
          rw [if_neg (show ¬ fin S = true by unfold fin; rw [hL]; simp)]
          rfl
        · refine ok_t (by rw [Bool.not_eq_true] at hL; rw [e5, hL]; rfl) (ok_s (key _ ?_))
          rw [Bool.not_eq_true] at hL
          rw [if_pos (show fin S = true by unfold fin; rw [hL, hd]; simp; omega)]
      · refine ok_f (by rw [e4]; exact fun z => hd (nI_inj (by omega) (by omega) (show nI (dd S) = nI 0 from z))) (ok_s (key _ ?_))
        rw [if_neg (show ¬ fin S = true by unfold fin; simp; omega)]
        rfl
  | m + 1, F + 1, j, S, fs, ks, ls, ps, sq, vs, tk, st, aL, aD, ms, sp, hm, hn, hn', hp, hG, hX => by
    unfold g_X6_errorIn_b40
    refine ok_f (nI_ge (by omega) (by omega)) (ok_c (x_inb (by omega) (by omega)) ?_)
    rw [fits_cg hX (show p1 (nI j).toNatClampNeg = nI (c j) by rw [x_cl (by omega)]; exact hp j (by omega))]
    refine ok_b (xs hX.2.2.2.2.2.2 hG.2.2 (hc j)) (fun o ho => ?_)
    obtain ⟨o1, o2⟩ := ho
    cases hx : nx S (c j) with
    | none =>
      refine ok_t (o1 hx) (ok_s ?_)
      rw [rd_none hx]
      exact ⟨rfl, fun S' z => by cases z⟩
    | some S' =>
      obtain ⟨q1, q2⟩ := o2 S' hx
      refine ok_f (by rw [q1]; decide) (ok_l ?_)
      rw [rd_some hx]
      have := lE (n := n) (p1 := p1) hc m F (j + 1) S' o.2.2.2.2.2.2.2.2.1 o.2.2.2.2.2.2.2.2.2.1 o.2.2.2.2.2.2.2.2.2.2.2.2 o.2.2.2.2.2.2.2.2.2.2.1 o.2.2.2.2.2.2.2.2.2.2.2.1 o.2.2.2.2.2.2.2.1 o.2.1 o.2.2.1 o.2.2.2.2.2.1 o.2.2.2.2.2.2.1 o.2.2.2.1 o.2.2.2.2.1 (by omega) (by omega) hn' (fun i hi => hp i (by omega)) (GS_nx hG hx) q2
      rw [show j + 1 + m = j + (m + 1) by omega] at this
      rw [show nI j + 1 = nI (j + 1) from nI_add _ 1]
      exact this
theorem XR_0 {vs fs ks ps sq ls : Nat → Int32} : XR rs0 0 0 0 0 0 0 vs fs ks ps sq ls := ⟨rfl, rfl, rfl, rfl, rfl, rfl, fun p hp => absurd hp (Nat.not_lt_zero p), fun i hi => absurd hi (Nat.not_lt_zero i), by decide⟩
theorem k_X6_errorIn {n L : Nat} {p1 : Nat → Int32} {c : Nat → Nat} (hc : ∀ j, c j < 65536) (hL : L ≤ n) (hL' : L < 100) (hn : n < 2147483647) (hp : ∀ i, i < L → p1 i = nI (c i)) (tk st ms sp aL aD : Int32) (vs fs ks ps sq ls : Nat → Int32) :
    Ok (g_X6_errorIn n tk st ms sp aL aD p1 vs fs ks ps sq ls (nI L)) (EQ6 (rd c L 0 rs0)) := by
  unfold g_X6_errorIn
  have e : (if nI n < nI L then nI n else nI L) = nI L := if_neg (nI_nlt hL (by omega))
  rw [e]
  refine ok_l ?_
  have := lE (n := n) (p1 := p1) hc L 100 0 rs0 fs ks ls ps sq vs 0 0 0 0 0 0 hL' (by omega) hn (fun i hi => hp i (by omega)) GS_0 XR_0
  rw [Nat.zero_add] at this
  exact this
