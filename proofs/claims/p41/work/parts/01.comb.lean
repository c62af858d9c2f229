/-! the pure programs: a check, a name, a call -/
abbrev gc {α : Type} (b : Bool) (k : Option α) : Option α := if b = true then k else none
abbrev gl {α β : Type} (a : α) (k : α → Option β) : Option β := k a
abbrev gb {α β : Type} (o : Option α) (k : α → Option β) : Option β := o.bind k
theorem gc_some {α : Type} {b : Bool} {k : Option α} {z : α} (h : gc b k = some z) : b = true ∧ k = some z := by
  by_cases hb : b = true
  · exact ⟨hb, (if_pos hb).symm.trans h⟩
  · exact absurd ((if_neg hb).symm.trans h) (fun q => nomatch q)
theorem gl_use {α β : Type} {a y : α} {k : α → Option β} {z : β} (e : y = a) (h : gl a k = some z) : k y = some z := by rw [e]; exact h
theorem gb_some {α β : Type} {o : Option α} {k : α → Option β} {z : β} (h : gb o k = some z) : ∃ x, o = some x ∧ k x = some z := by
  cases o with
  | none => cases h
  | some x => exact ⟨x, rfl, h⟩
def inb (i : Int32) (n : Nat) : Bool := decide (0 ≤ i.toInt ∧ i.toInt < n)
theorem inb_in {i : Int32} {n : Nat} (h : inb i n = true) : vp_in i n := vp_in_iff.mpr (of_decide_eq_true h)
def bo (v : Int32) : Bool := decide (v = 0 ∨ v = 1)
theorem bo_n {v : Int32} (h : bo v = true) : narrow .boolean (.int v) = .int v := by
  rcases of_decide_eq_true h with h | h <;> subst h <;> rfl
theorem bo_f {v : Int32} (h : bo v = true) : fits .boolean (.int v) = true := by
  rcases of_decide_eq_true h with h | h <;> subst h <;> rfl
def cho (v : Int32) : Bool := decide (0 ≤ v.toInt ∧ v.toInt < 65536)
theorem cho_nf {v : Int32} (h : cho v = true) : narrow .char (.int v) = .int v ∧ fits .char (.int v) = true := by
  obtain ⟨h1, h2⟩ := of_decide_eq_true h
  obtain ⟨j, hj, rfl⟩ := nI_of (x := v) (by rw [Int32.lt_iff_toInt_lt]; exact Int.not_lt.mpr h1)
  rw [nI_toInt hj] at h2
  exact pk_charN (by omega)
def n32 (r : UInt32) : Bool := decide (r &&& 0x7fffffff ≤ 0x7f800000)
theorem n32_n {r : UInt32} (h : n32 r = true) : vf_n32 r := (of_decide_eq_true h : r &&& 0x7fffffff ≤ 0x7f800000)
def n64 (r : UInt64) : Bool := decide (r &&& 0x7fffffffffffffff ≤ 0x7ff0000000000000)
theorem n64_n {r : UInt64} (h : n64 r = true) : vf_n64 r := (of_decide_eq_true h : r &&& 0x7fffffffffffffff ≤ 0x7ff0000000000000)
def cpok (sp dp n : Int32) (n0 n1 : Nat) : Bool := decide (¬ sp < 0 ∧ ¬ dp < 0 ∧ ¬ n < 0 ∧ sp.toNatClampNeg + n.toNatClampNeg ≤ n0 ∧ dp.toNatClampNeg + n.toNatClampNeg ≤ n1)
theorem cpok_ok {sp dp n : Int32} {n0 n1 : Nat} (h : cpok sp dp n n0 n1 = true) : ¬ sp < 0 ∧ ¬ dp < 0 ∧ ¬ n < 0 ∧ sp.toNatClampNeg + n.toNatClampNeg ≤ n0 ∧ dp.toNatClampNeg + n.toNatClampNeg ≤ n1 := of_decide_eq_true h
abbrev SV : Type := Nat × (Nat → Int32) × Int32 × Int32 × Int32 × (Nat → Int32) × (Nat → Int32) × (Nat → Int32) × (Nat → Int32) × (Nat → Int32)
abbrev go {α : Type} (r : Option Nat) (n : Option α) (k : Nat → Option α) : Option α := match r with
  | none => n
  | some a => k a
theorem go_none {α : Type} {r : Option Nat} {n : Option α} {k : Nat → Option α} {z : α} (e : r = none) (h : go r n k = some z) : n = some z := by subst e; exact h
theorem go_some {α : Type} {r : Option Nat} {n : Option α} {k : Nat → Option α} {z : α} {a : Nat} (e : r = some a) (h : go r n k = some z) : k a = some z := by subst e; exact h
def inl9 (LS : List Nat) (a : Nat) : Bool := decide (a ∈ LS)
theorem inl9_in {LS : List Nat} {a : Nat} (h : inl9 LS a = true) : a ∈ LS := of_decide_eq_true h
def oin9 (LS : List Nat) (r : Option Nat) : Bool := match r with
  | none => true
  | some a => decide (a ∈ LS)
theorem oin9_in {LS : List Nat} {r : Option Nat} (h : oin9 LS r = true) : ∀ a, r = some a → a ∈ LS := fun a e => by subst e; exact of_decide_eq_true h
