/-! THE LAW's tokens: what the reader made of a text, told by the text -/
/-- S stands where the text's first j characters are read -/
def AT9 (x : TX) (j : Nat) (S : RS) : Prop := (rd x.2 (x.1 - j) j S).2 = some (rT x)
section ATS
variable {x : TX} {j : Nat} {S S' R : RS} {c nc : Nat}
theorem AT_0 (h : OKT nc x) : AT9 x 0 rs0 := h.2.2.1
theorem AT_s (h : AT9 x j S) (hj : j < x.1) : ∃ S', nx S (x.2 j) = some S' ∧ AT9 x (j + 1) S' := by
  unfold AT9 at h
  have e : x.1 - j = (x.1 - (j + 1)) + 1 := by omega
  rw [e] at h
  cases hx : nx S (x.2 j) with
  | none => rw [rd_none hx] at h; cases h
  | some S' =>
    rw [rd_some hx] at h
    exact ⟨S', rfl, h⟩
theorem AT_e (h : AT9 x x.1 S) : S = rT x := by
  unfold AT9 at h
  rw [Nat.sub_self] at h
  exact Option.some.inj h
/-- the tokens read so far are those of R -/
def PRE9 (S R : RS) : Prop := S.1 ≤ R.1 ∧ ∀ p, p < S.1 → R.2.2.2.1 p = S.2.2.2.1 p
theorem PRE_push {q v c : Nat} {d : Bool} : PRE9 S (push S q v c d) := ⟨Nat.le_succ _, fun p hp => x_an (by omega)⟩
theorem PRE_nx (h : nx S c = some S') : PRE9 S S' := by
  unfold nx at h
  split at h
  · split at h
    · cases h; exact PRE_push
    · cases h
  · split at h
    · split at h
      · cases h; exact ⟨Nat.le_refl _, fun p _ => rfl⟩
      · split at h
        · cases h; exact PRE_push
        · cases h
    · split at h
      · split at h
        · cases h; exact PRE_push
        · cases h
      · split at h
        · split at h
          · cases h; exact PRE_push
          · cases h
        · split at h
          · split at h
            · cases h; exact PRE_push
            · cases h
          · split at h
            · split at h
              · cases h; exact ⟨Nat.le_refl _, fun p _ => rfl⟩
              · cases h
            · cases h
theorem PRE_at : ∀ n j S, x.1 - j = n → j ≤ x.1 → AT9 x j S → PRE9 S (rT x)
  | 0, j, S, hn, hj, h => by
    obtain rfl : j = x.1 := by omega
    rw [← AT_e h]
    exact ⟨Nat.le_refl _, fun p _ => rfl⟩
  | n + 1, j, S, hn, hj, h => by
    obtain ⟨S', e, h'⟩ := AT_s h (by omega)
    have h1 := PRE_nx e
    have h2 := PRE_at n (j + 1) S' (by omega) (by omega) h'
    exact ⟨Nat.le_trans h1.1 h2.1, fun p hp => (h2.2 p (by have := h1.1; omega)).trans (h1.2 p hp)⟩
/-- what a character at a token's beginning makes -/
theorem nx_inv (hL : S.2.2.2.2.1 = false) (hD : S.2.2.2.2.2 = true → dgt c = false) (h : nx S c = some S') :
    (ltr c = true ∧ S' = push S 0 (c - 97) c false) ∨ (dgt c = true ∧ S' = push S 1 (c - 48) c true) ∨ ((c = 43 ∨ c = 45 ∨ c = 42) ∧ 2 ≤ dd S ∧ S' = push S (opk c) 0 c false) ∨ ((c = 126 ∨ c = 33) ∧ 1 ≤ dd S ∧ S' = push S (if c = 126 then 5 else 6) 0 c false) ∨ (c = 61 ∧ 1 ≤ dd S ∧ S' = (S.1, S.2.1, S.2.2.1, S.2.2.2.1, true, false)) := by
  unfold nx at h
  rw [if_neg (by rw [hL]; decide)] at h
  by_cases g1 : dgt c = true
  · rw [if_pos g1, if_neg (fun z => by have := hD z; rw [g1] at this; cases this)] at h
    split at h
    · cases h; exact Or.inr (Or.inl ⟨g1, rfl⟩)
    · cases h
  · rw [if_neg g1] at h
    by_cases g2 : ltr c = true
    · rw [if_pos g2] at h
      split at h
      · cases h; exact Or.inl ⟨g2, rfl⟩
      · cases h
    · rw [if_neg g2] at h
      by_cases g3 : c = 43 ∨ c = 45 ∨ c = 42
      · rw [if_pos g3] at h
        by_cases g : 2 ≤ dd S
        · rw [if_pos g] at h
          cases h; exact Or.inr (Or.inr (Or.inl ⟨g3, g, rfl⟩))
        · rw [if_neg g] at h; cases h
      · rw [if_neg g3] at h
        by_cases g4 : c = 126 ∨ c = 33
        · rw [if_pos g4] at h
          by_cases g : 1 ≤ dd S ∧ S.1 + 1 + dd S ≤ 24
          · rw [if_pos g] at h
            cases h; exact Or.inr (Or.inr (Or.inr (Or.inl ⟨g4, g.1, rfl⟩)))
          · rw [if_neg g] at h; cases h
        · rw [if_neg g4] at h
          by_cases g5 : c = 61
          · rw [if_pos g5] at h
            by_cases g : 1 ≤ dd S
            · rw [if_pos g] at h
              cases h; exact Or.inr (Or.inr (Or.inr (Or.inr ⟨g5, g, rfl⟩)))
            · rw [if_neg g] at h; cases h
          · rw [if_neg g5] at h; cases h
end ATS
theorem hsB_cg {q : Nat} {k k' w w' : Nat → Nat} {c : Nat} : ∀ t, (∀ p, p < t → k' p = k p ∧ (k p = q → w' p = w p)) → hsB q k' w' c t = hsB q k w c t
  | 0, _ => rfl
  | t + 1, h => by
    rw [hsB_s, hsB_s, hsB_cg t (fun p hp => h p (by omega))]
    obtain ⟨h1, h2⟩ := h t (Nat.lt_succ_self t)
    rw [h1]
    by_cases g : k t = q
    · rw [h2 g]
    · rw [decide_eq_false (fun z => g z.1), decide_eq_false (fun z => g z.1)]
theorem hsB_push {S : RS} {j q v c e : Nat} {d : Bool} : hsB j (push S q v e d).2.1 (push S q v e d).2.2.1 c (push S q v e d).1 = (decide (q = j ∧ v = c) || hsB j S.2.1 S.2.2.1 c S.1) := by
  show hsB j (va_up S.2.1 S.1 q) (va_up S.2.2.1 S.1 v) c (S.1 + 1) = _
  rw [hsB_s, x_as, x_as, hsB_cg S.1 (fun p hp => ⟨x_an (by omega), fun _ => x_an (by omega)⟩)]
/-! masks of six -/
theorem mk_or : ∀ m : Fin 64, ∀ v : Fin 6, (nI m.1 ||| ((1 : Int32) <<< (nI v.1 &&& 31))) = nI (m.1 ||| 2 ^ v.1) ∧ m.1 ||| 2 ^ v.1 < 64 := by decide +kernel
theorem mk_bit : ∀ m : Fin 64, ∀ v c : Fin 6, (m.1 ||| 2 ^ v.1).testBit c.1 = (decide (v.1 = c.1) || m.1.testBit c.1) := by decide +kernel
theorem mk_rd : ∀ m : Fin 64, ∀ c : Fin 6, ((nI m.1 >>> (nI c.1 &&& 31)) &&& 1) = if m.1.testBit c.1 = true then 1 else 0 := by decide +kernel
theorem mk_0 : ∀ m : Fin 64, (nI m.1 ||| 0) = nI m.1 := by decide +kernel
/-- which cauldrons the tokens read so far take from, store in -/
def MSK (q : Nat) (S : RS) (m : Nat) : Prop := m < 64 ∧ ∀ c, c < 6 → m.testBit c = hsB q S.2.1 S.2.2.1 c S.1
theorem MSK_no {S : RS} {q q' v e m : Nat} {d : Bool} (h : MSK q S m) (hq : q' ≠ q) : MSK q (push S q' v e d) m := ⟨h.1, fun c hc => by
  rw [hsB_push, decide_eq_false (fun z => hq z.1), Bool.false_or]
  exact h.2 c hc⟩
theorem MSK_yes {S : RS} {q v e m : Nat} {d : Bool} (h : MSK q S m) (hv : v < 6) : MSK q (push S q v e d) (m ||| 2 ^ v) := ⟨(mk_or ⟨m, h.1⟩ ⟨v, hv⟩).2, fun c hc => by
  have e : (m ||| 2 ^ v).testBit c = (decide (v = c) || m.testBit c) := mk_bit ⟨m, h.1⟩ ⟨v, hv⟩ ⟨c, hc⟩
  rw [hsB_push, e, h.2 c hc]
  by_cases z : v = c
  · rw [decide_eq_true z, decide_eq_true ⟨rfl, z⟩]
  · rw [decide_eq_false z, decide_eq_false (fun y => z y.2)]⟩
theorem MSK_like {S S' : RS} {q m : Nat} (h : MSK q S m) (e1 : S'.1 = S.1) (e2 : S'.2.1 = S.2.1) (e3 : ∀ p, p < S.1 → S.2.1 p = q → S'.2.2.1 p = S.2.2.1 p) : MSK q S' m := ⟨h.1, fun c hc => by
  rw [e1, e2, hsB_cg S.1 (fun p hp => ⟨rfl, e3 p hp⟩)]
  exact h.2 c hc⟩
/-- the change of how many spoons lie, by a token's first character -/
def dl9 (c : Nat) : Int32 := bif (ltr c || dgt c) then 1 else if c = 126 ∨ c = 33 then 0 else -1
def tw9 (y : Nat → Nat) (m j : Nat) : Bool := decide (y j = 61) || (dgt (y j) && (decide (j + 1 < m) && dgt (y (j + 1))))
def tk9 (c : Nat) : Int32 := bif ltr c then (1 : Int32) <<< ((nI c - 97) &&& 31) else 0
def sk9 (c c' : Nat) : Int32 := bif decide (c = 61) then (1 : Int32) <<< ((nI c' - 97) &&& 31) else 0
def is9 (c : Nat) : Int32 := bif decide (c = 61) then 1 else 0
/-- a token more: what is so behind it -/
def STP9 (x : TX) (j : Nat) (S : RS) (m1 m2 : Nat) (S' : RS) (n1 n2 : Nat) : Prop :=
  AT9 x (j + bif tw9 x.2 x.1 j then 2 else 1) S' ∧ GS S' ∧ S'.2.2.2.2.1 = false ∧ (S'.2.2.2.2.2 = true → (j + bif tw9 x.2 x.1 j then 2 else 1) < x.1 → dgt (x.2 (j + bif tw9 x.2 x.1 j then 2 else 1)) = false) ∧ S'.1 = S.1 + 1 ∧ S'.2.2.2.1 S.1 = x.2 j ∧ nI (NS S.2.1 S.1) + is9 (x.2 j) = nI (NS S'.2.1 S'.1) ∧ nI (dd S) + dl9 (x.2 j) = nI (dd S') ∧ MS S'.2.1 S'.1 = mx (MS S.2.1 S.1) (dd S') ∧ (MSK 0 S' n1 ∧ nI m1 ||| tk9 (x.2 j) = nI n1) ∧ (MSK 7 S' n2 ∧ nI m2 ||| sk9 (x.2 j) (x.2 (j + 1)) = nI n2) ∧ (x.2 j = 61 → j + 1 < x.1) ∧ (j + bif tw9 x.2 x.1 j then 2 else 1) ≤ x.1
section STEP
variable {x : TX} {j m1 m2 nc : Nat} {S : RS}
theorem tw_no {y : Nat → Nat} {m j : Nat} (h1 : y j ≠ 61) (h2 : dgt (y j) = false) : tw9 y m j = false := by
  unfold tw9
  rw [decide_eq_false h1, h2]
  rfl
theorem is_no {c : Nat} (h : c ≠ 61) : is9 c = 0 := by unfold is9; rw [decide_eq_false h]; rfl
theorem sk_no {c c' : Nat} (h : c ≠ 61) : sk9 c c' = 0 := by unfold sk9; rw [decide_eq_false h]; rfl
theorem tk_no {c : Nat} (h : ltr c = false) : tk9 c = 0 := by unfold tk9; rw [h]; rfl
theorem nltr {c : Nat} (h : ¬ (97 ≤ c ∧ c ≤ 102)) : ltr c = false := by
  cases e : ltr c with
  | false => rfl
  | true => exact absurd (inb1.mp e) h
theorem ndgt {c : Nat} (h : ¬ (48 ≤ c ∧ c ≤ 57)) : dgt c = false := by
  cases e : dgt c with
  | false => rfl
  | true => exact absurd (inb2.mp e) h
theorem st_one {q v c : Nat} {d : Bool} (ec : c = x.2 j) (hA : AT9 x (j + 1) (push S q v c d)) (hG : GS (push S q v c d)) (hj : j < x.1) (h1 : MSK 0 S m1) (h2 : MSK 7 S m2) (tw : tw9 x.2 x.1 j = false) (hd : d = true → j + 1 < x.1 → dgt (x.2 (j + 1)) = false) (n61 : c ≠ 61) (q7 : q ≠ 7) (q0 : (q = 0 ∧ ltr c = true ∧ v = c - 97) ∨ (q ≠ 0 ∧ ltr c = false)) (hdl : nI (dd S) + dl9 c = nI (dd S - fnd q + ly q)) : ∃ S' n1 n2, STP9 x j S m1 m2 S' n1 n2 := by
  subst ec
  refine ⟨push S q v (x.2 j) d, (if q = 0 then m1 ||| 2 ^ v else m1), m2, ?_⟩
  unfold STP9
  rw [tw]
  refine ⟨hA, hG, rfl, hd, rfl, x_as, ?_, by rw [dd_push]; exact hdl, by rw [MS_push, dd_push], ?_, ⟨MSK_no h2 q7, ?_⟩, fun z => absurd z n61, hj⟩
  · rw [is_no n61, NS_push, if_neg q7]
    exact Int32.add_zero _
  · rcases q0 with ⟨e0, el, ev⟩ | ⟨e0, el⟩
    · subst e0
      have hl := inb1.mp el
      subst ev
      rw [if_pos rfl]
      refine ⟨MSK_yes h1 (by omega), ?_⟩
      unfold tk9
      rw [el]
      have e97 : nI (x.2 j) - 97 = nI (x.2 j - 97) := pk_sub (b := 97) hl.1
      show nI m1 ||| ((1 : Int32) <<< ((nI (x.2 j) - 97) &&& 31)) = _
      rw [e97]
      exact (mk_or ⟨m1, h1.1⟩ ⟨x.2 j - 97, by omega⟩).1
    · rw [if_neg e0, tk_no el]
      exact ⟨MSK_no h1 e0, mk_0 ⟨m1, h1.1⟩⟩
  · rw [sk_no n61]
    exact mk_0 ⟨m2, h2.1⟩
theorem tk_step (ho : OKT nc x) (hA : AT9 x j S) (hG : GS S) (hj : j < x.1) (hL : S.2.2.2.2.1 = false) (hD : S.2.2.2.2.2 = true → dgt (x.2 j) = false) (h1 : MSK 0 S m1) (h2 : MSK 7 S m2) : ∃ S' n1 n2, STP9 x j S m1 m2 S' n1 n2 := by
  obtain ⟨S1, e1, hA1⟩ := AT_s hA hj
  have hG1 := GS_nx hG e1
  have hb := (GS_b hG).2.1
  rcases nx_inv hL hD e1 with ⟨g, rfl⟩ | ⟨g, rfl⟩ | ⟨g, gd, rfl⟩ | ⟨g, gd, rfl⟩ | ⟨g, gd, rfl⟩
  · have gl := inb1.mp g
    exact st_one rfl hA1 hG1 hj h1 h2 (tw_no (by omega) (ndgt (by omega))) (fun z => by cases z) (by omega) (by decide) (Or.inl ⟨rfl, g, rfl⟩) (by unfold dl9; rw [g]; exact nI_1 _)
  · have gl := inb2.mp g
    have hl : ltr (x.2 j) = false := nltr (by omega)
    have hdl : nI (dd S) + dl9 (x.2 j) = nI (dd S - fnd 1 + ly 1) := by unfold dl9; rw [g, hl]; exact nI_1 _
    by_cases g2 : j + 1 < x.1 ∧ dgt (x.2 (j + 1)) = true
    · obtain ⟨S2, e2, hA2⟩ := AT_s hA1 g2.1
      have hG2 := GS_nx hG1 e2
      have e3 : S2 = ((push S 1 (x.2 j - 48) (x.2 j) true).1, (push S 1 (x.2 j - 48) (x.2 j) true).2.1, va_up (push S 1 (x.2 j - 48) (x.2 j) true).2.2.1 ((push S 1 (x.2 j - 48) (x.2 j) true).1 - 1) (10 * (push S 1 (x.2 j - 48) (x.2 j) true).2.2.1 ((push S 1 (x.2 j - 48) (x.2 j) true).1 - 1) + (x.2 (j + 1) - 48)), (push S 1 (x.2 j - 48) (x.2 j) true).2.2.2.1, false, false) := by
        unfold nx at e2
        rw [if_neg (show ¬ (push S 1 (x.2 j - 48) (x.2 j) true).2.2.2.2.1 = true from fun z => by cases z), if_pos g2.2, if_pos (show (push S 1 (x.2 j - 48) (x.2 j) true).2.2.2.2.2 = true from rfl)] at e2
        exact (Option.some.inj e2).symm
      have tw : tw9 x.2 x.1 j = true := by
        unfold tw9
        rw [g, g2.2, decide_eq_true g2.1]
        simp
      have m1' : MSK 0 (push S 1 (x.2 j - 48) (x.2 j) true) m1 := MSK_no h1 (by decide)
      have m2' : MSK 7 (push S 1 (x.2 j - 48) (x.2 j) true) m2 := MSK_no h2 (by decide)
      have h9 : ∀ q, q ≠ 1 → ∀ p, p < (push S 1 (x.2 j - 48) (x.2 j) true).1 → (push S 1 (x.2 j - 48) (x.2 j) true).2.1 p = q → S2.2.2.1 p = (push S 1 (x.2 j - 48) (x.2 j) true).2.2.1 p := fun q hq p hp hk => by
        rw [e3]
        refine x_an (fun z => hq ?_)
        rw [z] at hk
        have : (push S 1 (x.2 j - 48) (x.2 j) true).2.1 (S.1 + 1 - 1) = q := hk
        rw [Nat.add_sub_cancel] at this
        have e9 : (push S 1 (x.2 j - 48) (x.2 j) true).2.1 S.1 = 1 := x_as
        omega
      have k1 : S2.1 = S.1 + 1 := by rw [e3]; rfl
      have k2 : S2.2.1 = (push S 1 (x.2 j - 48) (x.2 j) true).2.1 := by rw [e3]
      have kd : dd S2 = dd (push S 1 (x.2 j - 48) (x.2 j) true) := by rw [e3]; rfl
      refine ⟨S2, m1, m2, ?_⟩
      unfold STP9
      rw [tw]
      refine ⟨hA2, hG2, by rw [e3], (fun z => (by rw [e3] at z; cases z)), k1, ?_, ?_, ?_, ?_, ⟨MSK_like m1' (by rw [e3]) k2 (h9 0 (by decide)), ?_⟩, ⟨MSK_like m2' (by rw [e3]) k2 (h9 7 (by decide)), ?_⟩, fun z => by omega, g2.1⟩
      · rw [e3]; exact x_as
      · rw [is_no (by omega), k2, k1, Int32.add_zero]
        have := NS_push (S := S) (q := 1) (v := x.2 j - 48) (c := x.2 j) (d := true)
        have : NS (push S 1 (x.2 j - 48) (x.2 j) true).2.1 (S.1 + 1) = NS S.2.1 S.1 := this
        rw [this]
      · rw [kd, dd_push]; exact hdl
      · rw [kd, k2, k1, dd_push]
        exact MS_push (S := S) (q := 1) (v := x.2 j - 48) (c := x.2 j) (d := true)
      · rw [tk_no hl]; exact mk_0 ⟨m1, h1.1⟩
      · rw [sk_no (by omega)]; exact mk_0 ⟨m2, h2.1⟩
    · refine st_one rfl hA1 hG1 hj h1 h2 ?_ (fun _ hj2 => ?_) (by omega) (by decide) (Or.inr ⟨by decide, hl⟩) hdl
      · unfold tw9
        rw [decide_eq_false (by omega)]
        by_cases y : j + 1 < x.1
        · have : dgt (x.2 (j + 1)) = false := by
            cases e : dgt (x.2 (j + 1)) with
            | false => rfl
            | true => exact absurd ⟨y, e⟩ g2
          rw [this]
          simp
        · rw [decide_eq_false y]
          simp
      · cases e : dgt (x.2 (j + 1)) with
        | false => rfl
        | true => exact absurd ⟨hj2, e⟩ g2
  · obtain ⟨o1, o2, o3⟩ := opk_c g
    have hl : ltr (x.2 j) = false := nltr (by omega)
    have hd : dgt (x.2 j) = false := ndgt (by omega)
    refine st_one rfl hA1 hG1 hj h1 h2 (tw_no (by omega) hd) (fun z => by cases z) (by omega) (fun z => by rw [z] at o1; exact absurd o1 (by decide)) (Or.inr ⟨fun z => by rw [z] at o1; exact absurd o1 (by decide), hl⟩) ?_
    unfold dl9
    rw [hl, hd, o1, o2]
    show nI (dd S) + (if x.2 j = 126 ∨ x.2 j = 33 then 0 else -1) = _
    rw [if_neg (by omega)]
    obtain ⟨e, he⟩ : ∃ e, dd S = e + 1 := ⟨dd S - 1, by omega⟩
    rw [he, pk_m1, show e + 1 - 2 + 1 = e by omega]
  · have hl : ltr (x.2 j) = false := nltr (by omega)
    have hd : dgt (x.2 j) = false := ndgt (by omega)
    have hq : (if x.2 j = 126 then 5 else 6) = 5 ∨ (if x.2 j = 126 then 5 else 6) = 6 := by split <;> simp
    refine st_one rfl hA1 hG1 hj h1 h2 (tw_no (by omega) hd) (fun z => by cases z) (by omega) (fun z => by omega) (Or.inr ⟨fun z => by omega, hl⟩) ?_
    unfold dl9
    rw [hl, hd]
    show nI (dd S) + (if x.2 j = 126 ∨ x.2 j = 33 then 0 else -1) = _
    rw [if_pos g, Int32.add_zero]
    have hf : dd S - fnd (if x.2 j = 126 then 5 else 6) + ly (if x.2 j = 126 then 5 else 6) = dd S := by
      rcases hq with e | e <;> rw [e] <;> simp [fnd, ly] <;> omega
    rw [hf]
  · have hl : ltr (x.2 j) = false := nltr (by omega)
    have hd : dgt (x.2 j) = false := ndgt (by omega)
    have hj2 : j + 1 < x.1 := by
      refine Nat.lt_of_not_le (fun z => ?_)
      obtain e : j + 1 = x.1 := by omega
      rw [e] at hA1
      have := (OKT_aL ho).1
      rw [← AT_e hA1] at this
      cases this
    obtain ⟨S2, e2, hA2⟩ := AT_s hA1 hj2
    have hG2 := GS_nx hG1 e2
    obtain ⟨gl, e3⟩ : ltr (x.2 (j + 1)) = true ∧ S2 = push (S.1, S.2.1, S.2.2.1, S.2.2.2.1, true, false) 7 (x.2 (j + 1) - 97) 61 false := by
      unfold nx at e2
      rw [if_pos (show ((S.1, S.2.1, S.2.2.1, S.2.2.2.1, true, false) : RS).2.2.2.2.1 = true from rfl)] at e2
      split at e2
      · rename_i y
        exact ⟨y, (Option.some.inj e2).symm⟩
      · cases e2
    have gl' := inb1.mp gl
    have tw : tw9 x.2 x.1 j = true := by
      unfold tw9
      rw [decide_eq_true g]
      rfl
    have hS : MSK 0 (S.1, S.2.1, S.2.2.1, S.2.2.2.1, true, false) m1 := MSK_like h1 rfl rfl (fun _ _ _ => rfl)
    have hS7 : MSK 7 (S.1, S.2.1, S.2.2.1, S.2.2.2.1, true, false) m2 := MSK_like h2 rfl rfl (fun _ _ _ => rfl)
    refine ⟨S2, m1, m2 ||| 2 ^ (x.2 (j + 1) - 97), ?_⟩
    unfold STP9
    rw [tw]
    have edd : dd S2 = dd S - 1 := by
      rw [e3, dd_push]
      show dd S - fnd 7 + ly 7 = _
      simp [fnd, ly]
    refine ⟨hA2, hG2, by rw [e3]; rfl, (fun z => (by rw [e3] at z; cases z)), by rw [e3]; rfl, by rw [e3]; exact x_as.trans g.symm, ?_, ?_, ?_, ⟨by rw [e3]; exact MSK_no hS (by decide), ?_⟩, ⟨by rw [e3]; exact MSK_yes hS7 (by omega), ?_⟩, fun _ => hj2, hj2⟩
    · rw [e3, NS_push, if_pos rfl]
      unfold is9
      rw [decide_eq_true g]
      exact nI_1 _
    · unfold dl9
      rw [hl, hd, edd]
      show nI (dd S) + (if x.2 j = 126 ∨ x.2 j = 33 then 0 else -1) = _
      rw [if_neg (by omega)]
      obtain ⟨e, he⟩ : ∃ e, dd S = e + 1 := ⟨dd S - 1, by omega⟩
      rw [he, pk_m1, Nat.add_sub_cancel]
    · rw [edd, e3, MS_push]
      show mx (MS S.2.1 S.1) (dd S - fnd 7 + ly 7) = _
      simp [fnd, ly]
    · rw [tk_no hl]; exact mk_0 ⟨m1, h1.1⟩
    · unfold sk9
      rw [decide_eq_true g]
      have e97 : nI (x.2 (j + 1)) - 97 = nI (x.2 (j + 1) - 97) := pk_sub (b := 97) gl'.1
      show nI m2 ||| ((1 : Int32) <<< ((nI (x.2 (j + 1)) - 97) &&& 31)) = _
      rw [e97]
      exact (mk_or ⟨m2, h2.1⟩ ⟨x.2 (j + 1) - 97, by omega⟩).1
end STEP
