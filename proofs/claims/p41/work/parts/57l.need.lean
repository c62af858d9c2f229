/-! rows of the whole claim that speak of the class alone (gen/pure1.py) -/
def OUT (p : Int32) (n : Nat) : Prop := p < 0 ∨ nI n ≤ p
theorem idx (p : Int32) (n : Nat) (hn : n < 2147483648) : (∃ i, i < n ∧ p = nI i) ∨ OUT p n := by
  by_cases h : p < 0
  · exact Or.inr (Or.inl h)
  · obtain ⟨j, hj, rfl⟩ := nI_of (x := p) h
    by_cases g : j < n
    · exact Or.inl ⟨j, g, rfl⟩
    · exact Or.inr (Or.inr (nI_le (by omega) (by omega)))
section
variable {LS : List Nat} {SE : Nat → SV} {nc ns : Nat} {X : Nat → TX} {tx : Nat → Option Nat} {cc s : Nat → Int32} {p : Int32} {i : Nat}
theorem k_needCauldron_in (hi : i < nc) (hn : nc ≤ 6) : g_X11_needCauldron (nI nc) (nI i) = some (nI 0) := by
  unfold g_X11_needCauldron
  simp (disch := omega) only [c_0, x_ltF, x_ltT, ↓reduceIte]
theorem k_needCauldron_out (h : OUT p nc) : g_X11_needCauldron (nI nc) p = some (nI 2) := by
  unfold g_X11_needCauldron g_X11_needCauldron_b15
  rcases h with h | h
  · rw [if_pos h]; rfl
  · by_cases g : p < 0
    · rw [if_pos g]; rfl
    · rw [if_neg g, if_neg (fun z => by
        rw [Int32.lt_iff_toInt_lt] at z
        rw [Int32.le_iff_toInt_le] at h
        omega)]
      rfl
theorem k_spellAt_out (h : OUT p ns) : g_X0_spellAt (nI ns) tx p = some none := by
  unfold g_X0_spellAt
  rcases h with h | h
  · rw [if_pos h]
  · by_cases g : p < 0
    · rw [if_pos g]
    · rw [if_neg g, if_pos h]
theorem k_needSpell_in {a : Nat} {x : TX} (hi : i < ns) (hn : ns ≤ 4) (e : tx i = some a) (hx : SPC LS SE a x) : g_X11_needSpell LS SE (nI ns) tx (nI i) = some (nI 0, some a) := by
  unfold g_X11_needSpell
  rw [k_spellAt hi hn e, e_gbS]
  show gc (inl9 LS a) _ = _
  rw [e_gc hx.1]
  rfl
theorem k_needSpell_out (h : OUT p ns) : g_X11_needSpell LS SE (nI ns) tx p = some (nI 2, none) := by
  unfold g_X11_needSpell
  rw [k_spellAt_out h]
  rfl
theorem m1_to {n : Nat} (hn : n < 2147483648) : (nI n - 1).toInt = (n : Int) - 1 := by
  cases n with
  | zero => rfl
  | succ n =>
    rw [show nI (n + 1) - 1 = nI n from x_s1, nI_toInt (by omega)]
    omega
theorem out_to {n : Nat} (hn : n < 2147483648) (h : OUT p n) : ¬ (0 ≤ p.toInt ∧ p.toInt < n) := by
  intro z
  rcases h with h | h
  · rw [Int32.lt_iff_toInt_lt] at h
    have : (0 : Int32).toInt = 0 := rfl
    omega
  · rw [Int32.le_iff_toInt_le, nI_toInt hn] at h
    omega
end
