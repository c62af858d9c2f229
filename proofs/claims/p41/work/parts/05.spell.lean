/-! SPELLS: which spoons lie where, by the kinds of tokens: 0 take, 1 put, 2 3 4 reckon, 5 to broth, 6 to drams, 7 store -/
def fnd (k : Nat) : Nat := if k ≤ 1 then 0 else if k ≤ 4 then 2 else 1
def ly (k : Nat) : Nat := if k = 7 then 0 else 1
def DD (k : Nat → Nat) : Nat → Nat
  | 0 => 0
  | p + 1 => DD k p - fnd (k p) + ly (k p)
def SS (k : Nat → Nat) : Nat → Nat → Nat
  | 0, _ => 0
  | p + 1, i => if k p ≠ 7 ∧ i + 1 = DD k (p + 1) then p else SS k p i
/-- the kinds of a text that finds its spoons, and leaves none -/
def SH (T : Nat) (k : Nat → Nat) : Prop := T ≤ 24 ∧ DD k T = 0 ∧ ∀ p, p < T → k p ≤ 7 ∧ fnd (k p) ≤ DD k p ∧ DD k (p + 1) ≤ 5
theorem DD_s (k : Nat → Nat) (p : Nat) : DD k (p + 1) = DD k p - fnd (k p) + ly (k p) := rfl
theorem SS_top {k : Nat → Nat} {p i : Nat} (h7 : k p ≠ 7) (hi : i + 1 = DD k (p + 1)) : SS k (p + 1) i = p := if_pos ⟨h7, hi⟩
theorem SS_old {k : Nat → Nat} {p i : Nat} (h : k p = 7 ∨ i + 1 ≠ DD k (p + 1)) : SS k (p + 1) i = SS k p i := if_neg (fun q => h.elim q.1 (fun h2 => h2 q.2))
theorem SS_lt (k : Nat → Nat) : ∀ (p i : Nat), i < DD k p → SS k p i < p
  | 0, i, h => absurd h (Nat.not_lt_zero i)
  | p + 1, i, h => by
    by_cases hc : k p ≠ 7 ∧ i + 1 = DD k (p + 1)
    · rw [SS_top hc.1 hc.2]; exact Nat.lt_succ_self p
    · have h1 : SS k (p + 1) i = SS k p i := if_neg hc
      rw [h1]
      have h2 : i < DD k p := by
        rw [DD_s] at h hc
        unfold ly at h hc
        by_cases h7 : k p = 7
        · rw [if_pos h7] at h; omega
        · rw [if_neg h7] at h hc
          have : ¬ (i + 1 = DD k p - fnd (k p) + 1) := fun q => hc ⟨h7, q⟩
          omega
      exact Nat.lt_succ_of_lt (SS_lt k p i h2)
theorem DD_le {T : Nat} {k : Nat → Nat} (h : SH T k) : ∀ p, p ≤ T → DD k p ≤ 5
  | 0, _ => Nat.zero_le 5
  | p + 1, hp => (h.2.2 p (by omega)).2.2
theorem fnd_0 : fnd 0 = 0 := rfl
theorem fnd_1 : fnd 1 = 0 := rfl
theorem fnd_2 : fnd 2 = 2 := rfl
theorem fnd_3 : fnd 3 = 2 := rfl
theorem fnd_4 : fnd 4 = 2 := rfl
theorem fnd_5 : fnd 5 = 1 := rfl
theorem fnd_6 : fnd 6 = 1 := rfl
theorem fnd_7 : fnd 7 = 1 := rfl
theorem k8 {k : Nat} (h : k ≤ 7) : k = 0 ∨ k = 1 ∨ k = 2 ∨ k = 3 ∨ k = 4 ∨ k = 5 ∨ k = 6 ∨ k = 7 := by omega
/-! TYPES: of each token, by what its parts are -/
abbrev TV : Type := Int32 × Int64 × Int64
def HL (lo hi : Nat → Int32) (w : Nat) (v : Int64) : Bool := decide (¬ v < (lo w).toInt64 ∧ ¬ (hi w).toInt64 < v)
def rkT (k : Nat) (a b : TV) : Option TV := if a.1 = b.1 then (if a.1 = 0 then (if exc3 (lo4 (nI k) a.2.1 a.2.2 b.2.1 b.2.2) = 0 ∧ exc3 (hi4 (nI k) a.2.1 a.2.2 b.2.1 b.2.2) = 0 then some (0, lo4 (nI k) a.2.1 a.2.2 b.2.1 b.2.2, hi4 (nI k) a.2.1 a.2.2 b.2.1 b.2.2) else none) else some a) else none
def stT (kd lo hi : Nat → Int32) (w : Nat) (a : TV) : Option TV := if a.1 = kd w then (if a.1 = 0 then (if HL lo hi w a.2.1 = true ∧ HL lo hi w a.2.2 = true then some a else none) else some a) else none
def tyOp (kd lo hi : Nat → Int32) (k w : Nat) (x y : Option TV) : Option TV :=
  if k = 0 then some (kd w, (lo w).toInt64, (hi w).toInt64)
  else if k = 1 then some (0, (nI w).toInt64, (nI w).toInt64)
  else if k = 5 then x.bind (fun a => if a.1 = 1 then none else some (1, -99, 99))
  else if k = 6 then x.bind (fun a => if a.1 = 0 then none else some (0, -99, 99))
  else if k = 7 then x.bind (stT kd lo hi w)
  else x.bind fun a => y.bind fun b => rkT k a b
/-- values by places, place by place -/
def VG {α : Type} (op : Nat → (Nat → Option α) → Option α) : Nat → Nat → Option α
  | 0 => fun _ => none
  | p + 1 => fun q => if q = p then op p (VG op p) else VG op p q
def vG {α : Type} (op : Nat → (Nat → Option α) → Option α) (p : Nat) : Option α := VG op (p + 1) p
section VGS
variable {α : Type} {op : Nat → (Nat → Option α) → Option α}
theorem VG_old {q : Nat} : ∀ p, q < p → VG op p q = vG op q
  | 0, h => absurd h (Nat.not_lt_zero q)
  | p + 1, h => by
    by_cases e : q = p
    · subst e; rfl
    · have h1 : VG op (p + 1) q = VG op p q := if_neg e
      rw [h1]
      exact VG_old p (by omega)
theorem vG_eq (p : Nat) : vG op p = op p (VG op p) := if_pos rfl
theorem FG_old {k : Nat → Nat} {p i : Nat} (h : k p = 7 ∨ i + 1 ≠ DD k (p + 1)) (hi : i < DD k p) : VG op (p + 1) (SS k (p + 1) i) = VG op p (SS k p i) := by
  rw [SS_old h]
  have := SS_lt k p i hi
  exact if_neg (by omega)
theorem FG_top {k : Nat → Nat} {p i : Nat} (h7 : k p ≠ 7) (hi : i + 1 = DD k (p + 1)) : VG op (p + 1) (SS k (p + 1) i) = vG op p := by rw [SS_top h7 hi]; rfl
end VGS
/-- typing at a place -/
def tyP (kd lo hi : Nat → Int32) (k w : Nat → Nat) (p : Nat) (V : Nat → Option TV) : Option TV := tyOp kd lo hi (k p) (w p) (V (SS k p (DD k p - fnd (k p)))) (V (SS k p (DD k p - 1)))
/-- how many stores stand ahead of a place -/
def NS (k : Nat → Nat) : Nat → Nat
  | 0 => 0
  | p + 1 => NS k p + (if k p = 7 then 1 else 0)
theorem NS_le (k : Nat → Nat) : ∀ p, NS k p ≤ p
  | 0 => Nat.le_refl 0
  | p + 1 => by
    have h := NS_le k p
    show NS k p + (if k p = 7 then 1 else 0) ≤ p + 1
    split <;> omega
theorem NS_s (k : Nat → Nat) (p : Nat) : NS k (p + 1) = NS k p + (if k p = 7 then 1 else 0) := rfl
theorem NS_mono (k : Nat → Nat) {p : Nat} : ∀ q, p ≤ q → NS k p ≤ NS k q
  | 0, h => by rw [show p = 0 by omega]; exact Nat.le_refl _
  | q + 1, h => by
    by_cases e : p = q + 1
    · rw [e]; exact Nat.le_refl _
    · have := NS_mono k (p := p) q (by omega)
      rw [NS_s]
      omega
/-- what a text's first characters are -/
def FSk (k w f : Nat) : Prop := (k = 0 ∧ f = 97 + w ∧ w < 6) ∨ (k = 1 ∧ 48 ≤ f ∧ f ≤ 57 ∧ w ≤ 99) ∨ (k = 2 ∧ f = 43) ∨ (k = 3 ∧ f = 45) ∨ (k = 4 ∧ f = 42) ∨ (k = 5 ∧ f = 126) ∨ (k = 6 ∧ f = 33) ∨ (k = 7 ∧ f = 61 ∧ w < 6)
