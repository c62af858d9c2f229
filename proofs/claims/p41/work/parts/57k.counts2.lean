/-! rows of the whole claim that speak of the class alone (gen/pure1.py) -/
def hsB (j : Nat) (k w : Nat → Nat) (c p : Nat) : Bool := (LAk j k w c p).isSome
theorem hsB_s (j : Nat) (k w : Nat → Nat) (c p : Nat) : hsB j k w c (p + 1) = (decide (k p = j ∧ w p = c) || hsB j k w c p) := by
  show (if k p = j ∧ w p = c then some p else LAk j k w c p).isSome = _
  by_cases h : k p = j ∧ w p = c
  · rw [if_pos h, decide_eq_true h]; rfl
  · rw [if_neg h, decide_eq_false h]; rfl
def HB (j c : Nat) (x : TX) : Bool := hsB j (rT x).2.1 (rT x).2.2.1 c (rT x).1
def CH (j c : Nat) (X : Nat → TX) : Nat → Nat
  | 0 => 0
  | i + 1 => CH j c X i + if HB j c (X i) = true then 1 else 0
theorem CH_le (j c : Nat) (X : Nat → TX) : ∀ i, CH j c X i ≤ i
  | 0 => Nat.le_refl 0
  | i + 1 => by
    have := CH_le j c X i
    show CH j c X i + (if HB j c (X i) = true then 1 else 0) ≤ i + 1
    split <;> omega
section
variable {LS : List Nat} {SE : Nat → SV} {nc ns : Nat} {X : Nat → TX} {tx : Nat → Option Nat} {cc s : Nat → Int32} {j c : Nat}
theorem LAk_lt {k w : Nat → Nat} : ∀ p q, LAk j k w c p = some q → q < p
  | 0, q, h => by cases h
  | p + 1, q, h => by
    by_cases e : k p = j ∧ w p = c
    · have h' : LAk j k w c (p + 1) = some p := if_pos e
      rw [h'] at h
      cases h
      exact Nat.lt_succ_self _
    · have h' : LAk j k w c (p + 1) = LAk j k w c p := if_neg e
      rw [h'] at h
      exact Nat.lt_succ_of_lt (LAk_lt p q h)
theorem l_spellsThat (hn : nc ≤ 6) (hn4 : ns ≤ 4) (hj : j = 0 ∨ j = 7) (hc : c < 6) (hX : SX LS SE nc ns X tx cc s) :
    ∀ (n i : Nat), i ≤ ns → ns - i < n → g_X0_spellsThat_b5 LS SE (nI ns) tx (nI j) (nI c) n (nI (CH j c X i)) (nI i) = some (nI (CH j c X ns))
  | 0, i, _, h => absurd h (Nat.not_lt_zero _)
  | n + 1, i, hi, hm => by
    unfold g_X0_spellsThat_b5 g_X0_spellsThat_b46
    by_cases e : i = ns
    · subst e
      exact if_pos (nI_le (Nat.le_refl _) (by omega))
    · have hi' : i < ns := by omega
      obtain ⟨⟨a, a1, a2⟩, a3, a4, a5⟩ := hX.1 i hi'
      have hsh := OKT_SH a3
      obtain ⟨b1, b2, b3, b4, b5, b6, b7, b8⟩ := id a2
      have hla := k8_la (T := (rT (X i)).1) (k := (rT (X i)).2.1) (w := (rT (X i)).2.2.1) (j := j) (c := c) hsh.1 (fun p hp => ⟨(b8 p hp).1, (b8 p hp).2.1⟩) (fun p hp => (hsh.2.2 p hp).1) (fun p hp e => OKT_w a3 hn p hp (by omega)) (by omega) hc (p := (rT (X i)).1) (Nat.le_refl _)
      have ih := l_spellsThat hn hn4 hj hc hX n (i + 1) (by omega) (by omega)
      have ec : CH j c X (i + 1) = CH j c X i + if HB j c (X i) = true then 1 else 0 := rfl
      have eh : HB j c (X i) = (LAk j (rT (X i)).2.1 (rT (X i)).2.2.1 c (rT (X i)).1).isSome := rfl
      rw [if_neg (nI_ge hi' (by omega)), k_spellAt hi' hn4 a1, e_gbS]
      show gc (inl9 LS a) _ = _
      rw [e_gc b1, b4, hla, e_gbS]
      cases hq : LAk j (rT (X i)).2.1 (rT (X i)).2.2.1 c (rT (X i)).1 with
      | none =>
        rw [hq] at eh
        rw [show HB j c (X i) = false from eh, if_neg Bool.false_ne_true] at ec
        have ec' : CH j c X (i + 1) = CH j c X i := ec
        rw [if_pos (show fcode none = -1 from rfl), e_gl, nI_1, ← ec']
        exact ih
      | some q =>
        have hq9 := LAk_lt _ q hq
        rw [hq] at eh
        rw [show HB j c (X i) = true from eh, if_pos rfl] at ec
        have hT := hsh.1
        have hnm : ¬ nI q = -1 := fun z => by have := x_m1n (a := q) (by omega); rw [this] at z; exact z
        rw [if_neg (show ¬ fcode (some q) = -1 from hnm), e_gl, e_gl, nI_1, nI_1, ← ec]
        exact ih
theorem k_spellsThat (hn : nc ≤ 6) (hn4 : ns ≤ 4) (hj : j = 0 ∨ j = 7) (hc : c < 6) (hX : SX LS SE nc ns X tx cc s) : g_X0_spellsThat LS SE (nI ns) tx (nI j) (nI c) = some (nI (CH j c X ns)) := by
  unfold g_X0_spellsThat
  exact l_spellsThat hn hn4 hj hc hX 100 0 (Nat.zero_le _) (by omega)
end
