/-! the class's typing of a whole text -/
/-- what the stores' rows tell -/
def SR (k : Nat → Nat) (op : Nat → (Nat → Option TV) → Option TV) (p : Nat) (sB : Nat → Int32) (sL sH : Nat → Int64) : Prop := ∀ q, q < p → k q = 7 → ∀ a, vG op q = some a → sB (NS k q) = a.1 ∧ (a.1 = 0 → sL (NS k q) = a.2.1 ∧ sH (NS k q) = a.2.2)
theorem SR_next {k : Nat → Nat} {op : Nat → (Nat → Option TV) → Option TV} {p : Nat} {sB sB' : Nat → Int32} {sL sH sL' sH' : Nat → Int64} (h : SR k op p sB sL sH) (h7 : k p = 7 → ∀ a, vG op p = some a → sB' (NS k p) = a.1 ∧ (a.1 = 0 → sL' (NS k p) = a.2.1 ∧ sH' (NS k p) = a.2.2)) (ho : ∀ j, j < NS k p → sB' j = sB j ∧ sL' j = sL j ∧ sH' j = sH j) : SR k op (p + 1) sB' sL' sH' := by
  intro q hq e a ha
  by_cases c : q = p
  · subst c; exact h7 e a ha
  · have hlt : NS k q < NS k p := by
      have h1 := NS_mono k (p := q + 1) p (by omega)
      rw [NS_s, if_pos e] at h1
      omega
    obtain ⟨e1, e2, e3⟩ := ho _ hlt
    rw [e1, e2, e3]
    exact h q (by omega) e a ha
/-- the first place without a value, or none -/
def FV {α : Type} (op : Nat → (Nat → Option α) → Option α) (T : Nat) (o : Option Nat) : Prop := match o with
  | none => ∀ q, q < T → vG op q ≠ none
  | some f => f < T ∧ vG op f = none ∧ ∀ q, q < f → vG op q ≠ none
theorem FV_one {α : Type} {op : Nat → (Nat → Option α) → Option α} {T : Nat} {o o' : Option Nat} (h : FV op T o) (h' : FV op T o') : o = o' := by
  cases o with
  | none => cases o' with
    | none => rfl
    | some f => exact absurd h'.2.1 (h f h'.1)
  | some f => cases o' with
    | none => exact absurd h.2.1 (h' f h.1)
    | some g =>
      by_cases c : f = g
      · rw [c]
      · rcases Nat.lt_or_gt_of_ne c with c | c
        · exact absurd h.2.1 (h'.2.2 f c)
        · exact absurd h'.2.1 (h.2.2 g c)
theorem FV_has {α : Type} (op : Nat → (Nat → Option α) → Option α) : ∀ T, ∃ o, FV op T o
  | 0 => ⟨none, fun q h => absurd h (Nat.not_lt_zero q)⟩
  | T + 1 => by
    obtain ⟨o, h⟩ := FV_has op T
    cases o with
    | some f => exact ⟨some f, by have := h.1; omega, h.2⟩
    | none =>
      by_cases c : vG op T = none
      · exact ⟨some T, Nat.lt_succ_self T, c, h⟩
      · refine ⟨none, fun q hq => ?_⟩
        by_cases e : q = T
        · rw [e]; exact c
        · exact h q (by omega)
def fcode (o : Option Nat) : Int32 := match o with
  | none => -1
  | some f => nI f
section T9C
variable {T : Nat} {k w : Nat → Nat} {kd lo hi : Nat → Int32} {ks vs : Nat → Int32}
abbrev R9 (T : Nat) (k : Nat → Nat) (op : Nat → (Nat → Option TV) → Option TV) (o : Int32 × Int32 × Int32 × Int32 × (Nat → Int32) × (Nat → Int64) × (Nat → Int64) × (Nat → Int32) × (Nat → Int64) × (Nat → Int64)) : Prop :=
  ∃ f, FV op T f ∧ o.1 = (if f = none then nI 1 else nI 0) ∧ o.2.1 = fcode f ∧ (f = none → o.2.2.1 = nI (NS k T) ∧ SR k op T o.2.2.2.2.2.2.2.1 o.2.2.2.2.2.2.2.2.1 o.2.2.2.2.2.2.2.2.2)
theorem l9 (hsh : SH T k) (hw : ∀ p, p < T → (k p = 0 ∨ k p = 7) → w p < 6) (hb : ∀ c, c < 6 → bo (kd c) = true) (hk : ∀ p, p < T → ks p = nI (k p) ∧ vs p = nI (w p)) :
    ∀ (n p : Nat) (iB sB : Nat → Int32) (l h sL sH : Nat → Int64), p ≤ T → T - p < n → (∀ q, q < p → vG (tyP kd lo hi k w) q ≠ none) → RT iB l h (DD k p) (fun i => VG (tyP kd lo hi k w) p (SS k p i)) → SR k (tyP kd lo hi k w) p sB sL sH →
      Ok (g_X9_passes_b17 (nI T) ks vs kd lo hi n h iB l sH sB sL (nI (NS k p)) (nI (DD k p)) (nI p)) (R9 T k (tyP kd lo hi k w))
  | 0, p, _, _, _, _, _, _, _, h, _, _, _ => absurd h (Nat.not_lt_zero _)
  | n + 1, p, iB, sB, l, h, sL, sH, hp, hn, hq, hR, hS => by
    unfold g_X9_passes_b17
    have hT := hsh.1
    by_cases c : p = T
    · subst c
      refine ok_t (nI_le (Nat.le_refl _) (by omega)) (ok_s ⟨none, hq, rfl, rfl, fun _ => ⟨rfl, hS⟩⟩)
    · have hp' : p < T := by omega
      have hns := NS_le k p
      refine ok_f (nI_ge hp' (by omega)) (ok_c (x_inb (by omega) (by omega)) (ok_c (x_inb (by omega) (by omega)) ?_))
      rw [x_cl (by omega), (hk p hp').1, (hk p hp').2]
      refine ok_b (t9 hsh hp' (hw p hp') hb (sn := NS k p) (by omega) hR) (fun o ho => ?_)
      obtain ⟨h0, h1⟩ := ho
      cases hv : vG (tyP kd lo hi k w) p with
      | none =>
        refine ok_t (h0 hv) (ok_s ⟨some p, ⟨hp', hv, hq⟩, rfl, rfl, fun z => by cases z⟩)
      | some a =>
        obtain ⟨e1, e2, e3, e4, e5, e6⟩ := h1 a hv
        refine ok_f (by rw [e1]; decide) (ok_l ?_)
        rw [e2, e3, nI_1]
        have := l9 hsh hw hb hk n (p + 1) o.2.2.2.1 o.2.2.2.2.2.2.1 o.2.2.2.2.1 o.2.2.2.2.2.1 o.2.2.2.2.2.2.2.1 o.2.2.2.2.2.2.2.2 (by omega) (by omega) (fun q hq' => by
          by_cases c : q = p
          · rw [c, hv]; exact fun z => by cases z
          · exact hq q (by omega)) e4 (SR_next hS (fun e b hb' => by rw [hv] at hb'; cases hb'; exact e5 e) e6)
        exact this
/-- the class's typing -/
theorem k9 (hsh : SH T k) (hw : ∀ p, p < T → (k p = 0 ∨ k p = 7) → w p < 6) (hb : ∀ c, c < 6 → bo (kd c) = true) (hk : ∀ p, p < T → ks p = nI (k p) ∧ vs p = nI (w p)) (fa so sp : Int32) (iB sB : Nat → Int32) (l h sL sH : Nat → Int64) :
    Ok (g_X9_passes fa so sp (nI T) ks vs kd lo hi iB l h sB sL sH) (R9 T k (tyP kd lo hi k w)) := by
  have := hsh.1
  exact l9 hsh hw hb hk 100 0 iB sB l h sL sH (Nat.zero_le _) (by omega) (fun q z => absurd z (Nat.not_lt_zero q)) (fun i z => absurd z (Nat.not_lt_zero i)) (fun q z => absurd z (Nat.not_lt_zero q))
end T9C
