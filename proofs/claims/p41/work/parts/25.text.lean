/-! OF THE CLASS ALONE: what other rows of the whole claim have beside the reference -/
theorem lt64 {a : Nat} (ha : a < 2147483648) (b : Nat) (hb : b < 2147483648) (v : Int64) (hv : v = (nI b).toInt64) : ((nI a).toInt64 < v) = (a < b) := by rw [hv]; exact nI_64 ha hb
theorem gt64 {a : Nat} (ha : a < 2147483648) (b : Nat) (hb : b < 2147483648) (v : Int64) (hv : v = (nI b).toInt64) : (v < (nI a).toInt64) = (b < a) := by rw [hv]; exact nI_64 hb ha
def rng (v : Int64) : Bool := decide (¬ v < -1000000 ∧ ¬ 1000000 < v)
theorem rng_exc {v : Int64} : rng v = true ↔ exc3 v = 0 := by
  unfold rng exc3
  rw [decide_eq_true_eq]
  by_cases h1 : v < -1000000
  · rw [if_pos h1]; exact ⟨fun z => absurd h1 z.1, fun z => absurd z (by decide)⟩
  · rw [if_neg h1]
    by_cases h2 : (1000000 : Int64) < v
    · rw [if_pos h2]; exact ⟨fun z => absurd h2 z.2, fun z => absurd z (by decide)⟩
    · rw [if_neg h2]; exact ⟨fun _ => rfl, fun _ => ⟨h1, h2⟩⟩
theorem i32_64 (v : Int32) : v.toInt64.toInt32 = v := by
  apply Int32.toInt_inj.mp
  rw [Int64.toInt_toInt32, Int32.toInt_toInt64]
  have h1 := v.minValue_le_toInt
  have h2 := v.toInt_le
  have e1 : Int32.minValue.toInt = -2147483648 := rfl
  have e2 : Int32.maxValue.toInt = 2147483647 := rfl
  rw [Int.bmod_eq_of_le] <;> omega
theorem i64_32 {v : Int64} (h : exc3 v = 0) : v.toInt32.toInt64 = v := by
  have h' := rng_exc.mpr h
  unfold rng at h'
  rw [decide_eq_true_eq, Int64.lt_iff_toInt_lt, Int64.lt_iff_toInt_lt] at h'
  have e1 : (1000000 : Int64).toInt = 1000000 := rfl
  have e2 : (-1000000 : Int64).toInt = -1000000 := rfl
  apply Int64.toInt_inj.mp
  rw [Int32.toInt_toInt64, Int64.toInt_toInt32]
  rw [Int.bmod_eq_of_le] <;> omega
abbrev TX : Type := Nat × (Nat → Nat)
def rT (x : TX) : RS := ((rd x.2 x.1 0 rs0).2).getD rs0
def OKT (nc : Nat) (x : TX) : Prop := x.1 ≤ 60 ∧ (∀ j, x.2 j < 65536) ∧ (rd x.2 x.1 0 rs0).2 = some (rT x) ∧ fin (rT x) = true ∧ (∀ p, p < (rT x).1 → ((rT x).2.1 p = 0 ∨ (rT x).2.1 p = 7) → (rT x).2.2.1 p < nc)
theorem GS_SH {S : RS} (h : GS S) (hf : fin S = true) : SH S.1 S.2.1 := by
  obtain ⟨h1, h2, h3⟩ := h
  have hf' : S.2.2.2.2.1 = false ∧ dd S = 0 ∧ 0 < NS S.2.1 S.1 := by
    unfold fin at hf
    exact of_decide_eq_true hf
  refine ⟨by omega, hf'.2.1, fun p hp => ?_⟩
  obtain ⟨a1, a2, a3⟩ := h1 p hp
  exact ⟨by unfold FSk at a1; omega, a2, a3⟩
theorem OKT_GS {nc : Nat} {x : TX} (h : OKT nc x) : GS (rT x) := rd_GS x.1 0 rs0 GS_0 _ h.2.2.1
theorem OKT_SH {nc : Nat} {x : TX} (h : OKT nc x) : SH (rT x).1 (rT x).2.1 := GS_SH (OKT_GS h) h.2.2.2.1
theorem OKT_w {nc : Nat} {x : TX} (h : OKT nc x) (hn : nc ≤ 6) : ∀ p, p < (rT x).1 → ((rT x).2.1 p = 0 ∨ (rT x).2.1 p = 7) → (rT x).2.2.1 p < 6 := fun p hp e => by
  have := h.2.2.2.2 p hp e
  omega
theorem OKT_aL {nc : Nat} {x : TX} (h : OKT nc x) : (rT x).2.2.2.2.1 = false ∧ dd (rT x) = 0 ∧ 0 < NS (rT x).2.1 (rT x).1 := by
  have hf := h.2.2.2.1
  unfold fin at hf
  exact of_decide_eq_true hf
