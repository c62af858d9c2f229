/-! rows of the whole claim that speak of the class alone (gen/pure1.py) -/
def tyB {α : Type} (op : Nat → (Nat → Option α) → Option α) : Nat → Bool
  | 0 => true
  | T + 1 => tyB op T && (vG op T).isSome
theorem tyB_iff {α : Type} {op : Nat → (Nat → Option α) → Option α} : ∀ T, tyB op T = true ↔ ∀ q, q < T → vG op q ≠ none
  | 0 => ⟨fun _ q h => absurd h (Nat.not_lt_zero q), fun _ => rfl⟩
  | T + 1 => by
    have ih := tyB_iff (op := op) T
    show (tyB op T && (vG op T).isSome) = true ↔ _
    rw [Bool.and_eq_true, ih]
    constructor
    · intro h q hq
      by_cases e : q = T
      · rw [e]; intro z; rw [z] at h; exact absurd h.2 Bool.false_ne_true
      · exact h.1 q (by omega)
    · intro h
      refine ⟨fun q hq => h q (by omega), ?_⟩
      cases hv : vG op T with
      | none => exact absurd hv (h T (Nat.lt_succ_self T))
      | some a => rfl
theorem FV_tyB {α : Type} {op : Nat → (Nat → Option α) → Option α} {T : Nat} {f : Option Nat} (h : FV op T f) : tyB op T = true ↔ f = none := by
  rw [tyB_iff]
  cases f with
  | none => exact ⟨fun _ => rfl, fun _ => h⟩
  | some q => exact ⟨fun z => absurd h.2.1 (z q h.1), fun z => by cases z⟩
def TB (kd lo hi : Nat → Int32) (x : TX) : Bool := tyB (tyP kd lo hi (rT x).2.1 (rT x).2.2.1) (rT x).1
def CT (kd lo hi : Nat → Int32) (X : Nat → TX) : Nat → Nat
  | 0 => 0
  | i + 1 => CT kd lo hi X i + if TB kd lo hi (X i) = true then 1 else 0
theorem CT_le (kd lo hi : Nat → Int32) (X : Nat → TX) : ∀ i, CT kd lo hi X i ≤ i
  | 0 => Nat.le_refl 0
  | i + 1 => by
    have := CT_le kd lo hi X i
    show CT kd lo hi X i + (if TB kd lo hi (X i) = true then 1 else 0) ≤ i + 1
    split <;> omega
section
variable {LS : List Nat} {SE : Nat → SV} {nc ns : Nat} {X : Nat → TX} {tx : Nat → Option Nat} {cc s kd lo hi mn si : Nat → Int32} {mu ff : Nat → UInt32}
theorem k_spellAt {i a : Nat} (hi : i < ns) (hn : ns ≤ 4) (e : tx i = some a) : g_X0_spellAt (nI ns) tx (nI i) = some (some a) := by
  unfold g_X0_spellAt
  simp (disch := omega) only [c_0, c_4, x_ltF, x_leF, ↓reduceIte, x_inb, e_gcT, x_cl, e]
theorem k9x {x : TX} {a : Nat} (hx : SPC LS SE a x) (ho : OKT nc x) (hn : nc ≤ 6) (hb : ∀ c, c < 6 → bo (kd c) = true) (fa so sp : Int32) (iB sB : Nat → Int32) (l h sL sH : Nat → Int64) :
    Ok (g_X9_passes fa so sp (SE a).2.2.1 (SE a).2.2.2.2.2.2.1 (SE a).2.2.2.2.2.2.2.1 kd lo hi iB l h sB sL sH) (R9 (rT x).1 (rT x).2.1 (tyP kd lo hi (rT x).2.1 (rT x).2.2.1)) := by
  obtain ⟨_, _, _, h4, _, _, _, h8⟩ := hx
  rw [h4]
  exact k9 (OKT_SH ho) (OKT_w ho hn) hb (fun p hp => ⟨(h8 p hp).1, (h8 p hp).2.1⟩) fa so sp iB sB l h sL sH
theorem l_countTyped (hn : nc ≤ 6) (hn4 : ns ≤ 4) (hb : ∀ c, c < 6 → bo (kd c) = true) (hX : SX LS SE nc ns X tx cc s) :
    ∀ (n i : Nat) (iB sB : Nat → Int32) (l h sL sH : Nat → Int64) (fa so sp : Int32), i ≤ ns → ns - i < n → Ok (g_X11_countTyped_b4 LS SE (nI ns) tx kd lo hi n h iB l sH sB sL fa so sp (nI (CT kd lo hi X i)) (nI i)) (fun o => o.1 = nI (CT kd lo hi X ns))
  | 0, i, _, _, _, _, _, _, _, _, _, _, h => absurd h (Nat.not_lt_zero _)
  | n + 1, i, iB, sB, l, h, sL, sH, fa, so, sp, hle, hm => by
    unfold g_X11_countTyped_b4 g_X11_countTyped_b46
    by_cases c : i = ns
    · subst c
      exact ok_t (nI_le (Nat.le_refl _) (by omega)) (ok_s rfl)
    · have hi' : i < ns := by omega
      obtain ⟨⟨a, a1, a2⟩, a3, a4, a5⟩ := hX.1 i hi'
      refine ok_f (nI_ge hi' (by omega)) (ok_be (k_spellAt hi' hn4 a1) (ok_gs (ok_c a2.1 (ok_b (k9x a2 a3 hn hb fa so sp iB sB l h sL sH) (fun o ho => ?_)))))
      obtain ⟨f, f1, f2, f3⟩ := ho
      have e : CT kd lo hi X (i + 1) = CT kd lo hi X i + if TB kd lo hi (X i) = true then 1 else 0 := rfl
      have ht : TB kd lo hi (X i) = true ↔ f = none := FV_tyB f1
      by_cases z : f = none
      · rw [if_pos z] at f2
        rw [if_pos (ht.mpr z)] at e
        refine ok_f (by rw [f2]; decide) (ok_l (ok_l ?_))
        rw [nI_1, nI_1, ← e]
        exact l_countTyped hn hn4 hb hX n (i + 1) _ _ _ _ _ _ _ _ _ (by omega) (by omega)
      · rw [if_neg z] at f2
        rw [if_neg (fun y => z (ht.mp y))] at e
        refine ok_t f2 (ok_l ?_)
        rw [nI_1]
        have e' : CT kd lo hi X (i + 1) = CT kd lo hi X i := e
        rw [← e']
        exact l_countTyped hn hn4 hb hX n (i + 1) _ _ _ _ _ _ _ _ _ (by omega) (by omega)
theorem k_countTyped (hn : nc ≤ 6) (hn4 : ns ≤ 4) (hb : ∀ c, c < 6 → bo (kd c) = true) (hX : SX LS SE nc ns X tx cc s) (fa so sp : Int32) (iB sB : Nat → Int32) (l h sL sH : Nat → Int64) :
    Ok (g_X11_countTyped LS SE (nI ns) tx fa so sp kd lo hi iB l h sB sL sH) (fun o => o.1 = nI (CT kd lo hi X ns)) := by
  unfold g_X11_countTyped
  exact l_countTyped hn hn4 hb hX 100 0 iB sB l h sL sH fa so sp (Nat.zero_le _) (by omega)
end
