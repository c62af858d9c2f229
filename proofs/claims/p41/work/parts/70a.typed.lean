/-! THE LAW's typed holds -/
/-- where a spell fails to type -/
def TY (B : BB) (i : Nat) : Option Nat := flT B.1.2.2.2.2.2.2.1 B.1.2.2.2.2.2.2.2.1 B.1.2.2.2.2.2.2.2.2.1 (B.2.2.2 i)
/-- what the reader made of a spell -/
def rS (B : BB) (i : Nat) : RS := rT (B.2.2.2 i)
section PT1
variable {B : BB} {i p : Nat}
theorem types_in (hi : i < B.2.2.1) (h4 : B.2.2.1 ≤ 4) : f_types B (nI i) = if TY B i = none then 1 else 0 := by
  unfold f_types
  rw [fx_in hi (by omega)]
  rfl
theorem fault_in (hi : i < B.2.2.1) (h4 : B.2.2.1 ≤ 4) : f_fault B (nI i) = match TY B i with | none => -14 | some q => nI q := by
  unfold f_fault
  rw [fx_in hi (by omega)]
  rfl
theorem sp0 (hi : i < B.2.2.1) (h4 : B.2.2.1 ≤ 4) : f_spellOf B (nI i) 0 = nI (rS B i).1 := by
  unfold f_spellOf
  rw [fx_in hi (by omega)]
  rfl
theorem sp1 (hi : i < B.2.2.1) (h4 : B.2.2.1 ≤ 4) : f_spellOf B (nI i) 1 = nI (NS (rS B i).2.1 (rS B i).1) := by
  unfold f_spellOf
  rw [fx_in hi (by omega)]
  rfl
theorem sp2 (hi : i < B.2.2.1) (h4 : B.2.2.1 ≤ 4) : f_spellOf B (nI i) 2 = nI (MS (rS B i).2.1 (rS B i).1) := by
  unfold f_spellOf
  rw [fx_in hi (by omega)]
  rfl
theorem sp3 (hi : i < B.2.2.1) (h4 : B.2.2.1 ≤ 4) : f_spellOf B (nI i) 3 = if TY B i = none then 1 else 0 := by
  unfold f_spellOf
  rw [fx_in hi (by omega)]
  rfl
theorem sp4 (hi : i < B.2.2.1) (h4 : B.2.2.1 ≤ 4) : f_spellOf B (nI i) 4 = B.1.2.2.2.2.2.2.2.2.2.2.2 i := by
  unfold f_spellOf
  rw [fx_in hi (by omega)]
  rfl
theorem sp5 (hi : i < B.2.2.1) (h4 : B.2.2.1 ≤ 4) : f_spellOf B (nI i) 5 = -12 := by
  unfold f_spellOf
  rw [fx_in hi (by omega)]
  rfl
theorem tok_in (hi : i < B.2.2.1) (h4 : B.2.2.1 ≤ 4) (hp : p < (rS B i).1) (h24 : (rS B i).1 ≤ 24) : f_token B (nI i) (nI p) = nI ((rS B i).2.2.2.1 p) := by
  unfold f_token
  rw [fx_in hi (by omega)]
  show (match fx (nI p) (rS B i).1 with | none => -14 | some j => nI ((rS B i).2.2.2.1 j)) = _
  rw [fx_in hp (by omega)]
theorem tok_out {q : Int32} (hi : i < B.2.2.1) (h4 : B.2.2.1 ≤ 4) (h24 : (rS B i).1 ≤ 24) (ho : OUT q (rS B i).1) : f_token B (nI i) q = -14 := by
  unfold f_token
  rw [fx_in hi (by omega)]
  show (match fx q (rS B i).1 with | none => -14 | some j => nI ((rS B i).2.2.2.1 j)) = _
  rw [fx_out (by omega) ho]
theorem out_n {n : Nat} : OUT (nI n) n := Or.inr (Int32.le_refl _)
theorem out_m1 {n : Nat} : OUT (-1) n := Or.inl (by decide)
theorem types_out {q : Int32} (h4 : B.2.2.1 ≤ 4) (ho : OUT q B.2.2.1) : f_types B q = -11 := by
  unfold f_types
  rw [fx_out (by omega) ho]
theorem fault_out {q : Int32} (h4 : B.2.2.1 ≤ 4) (ho : OUT q B.2.2.1) : f_fault B q = -11 := by
  unfold f_fault
  rw [fx_out (by omega) ho]
theorem bound_out {q a b : Int32} (h4 : B.2.2.1 ≤ 4) (ho : OUT q B.2.2.1) : f_bound B q a b = -1001 := by
  unfold f_bound
  rw [fx_out (by omega) ho]
theorem bound_no {a b : Int32} (hi : i < B.2.2.1) (h4 : B.2.2.1 ≤ 4) (hn : TY B i ≠ none) : f_bound B (nI i) a b = -1004 := by
  unfold f_bound
  rw [fx_in hi (by omega)]
  exact if_neg hn
theorem bound_beyond {a b : Int32} (hi : i < B.2.2.1) (h4 : B.2.2.1 ≤ 4) (h24 : (rS B i).1 ≤ 24) (ho : OUT a (NS (rS B i).2.1 (rS B i).1)) : f_bound B (nI i) a b = -1004 := by
  by_cases hn : TY B i = none
  · unfold f_bound
    rw [fx_in hi (by omega)]
    refine (if_pos hn).trans ?_
    have := NS_le (rS B i).2.1 (rS B i).1
    have e : fx a (NS (rT (B.2.2.2 i)).2.1 (rT (B.2.2.2 i)).1) = none := fx_out (n := NS (rS B i).2.1 (rS B i).1) (by omega) ho
    rw [e]
  · exact bound_no hi h4 hn
theorem bound_at {b : Int32} {t : TV} (hi : i < B.2.2.1) (h4 : B.2.2.1 ≤ 4) (h24 : (rS B i).1 ≤ 24) (hn : TY B i = none) (hp : p < (rS B i).1) (h7 : (rS B i).2.1 p = 7) (ht : vG (tyP B.1.2.2.2.2.2.2.1 B.1.2.2.2.2.2.2.2.1 B.1.2.2.2.2.2.2.2.2.1 (rS B i).2.1 (rS B i).2.2.1) p = some t) : f_bound B (nI i) (nI (NS (rS B i).2.1 p)) b = if t.1 = 0 then (if b = 0 then t.2.1.toInt32 else t.2.2.toInt32) else -1004 := by
  unfold f_bound
  rw [fx_in hi (by omega)]
  refine (if_pos hn).trans ?_
  have h1 : NS (rS B i).2.1 (p + 1) = NS (rS B i).2.1 p + 1 := by rw [NS_s, if_pos h7]
  have h2 := NS_mono (rS B i).2.1 (p := p + 1) (rS B i).1 (by omega)
  have h3 := NS_le (rS B i).2.1 (rS B i).1
  have e : fx (nI (NS (rS B i).2.1 p)) (NS (rT (B.2.2.2 i)).2.1 (rT (B.2.2.2 i)).1) = some (NS (rS B i).2.1 p) := fx_in (n := NS (rS B i).2.1 (rS B i).1) (by omega) (by omega)
  rw [e]
  have e2 : STP (rT (B.2.2.2 i)).2.1 (NS (rS B i).2.1 p) (rT (B.2.2.2 i)).1 = some p := STP_at h7 _ hp
  show (match STP (rT (B.2.2.2 i)).2.1 (NS (rS B i).2.1 p) (rT (B.2.2.2 i)).1 with | none => (-1004 : Int32) | some z => _) = _
  rw [e2]
  have e3 : vG (tyP B.1.2.2.2.2.2.2.1 B.1.2.2.2.2.2.2.2.1 B.1.2.2.2.2.2.2.2.2.1 (rT (B.2.2.2 i)).2.1 (rT (B.2.2.2 i)).2.2.1) p = some t := ht
  show (match vG (tyP B.1.2.2.2.2.2.2.1 B.1.2.2.2.2.2.2.2.1 B.1.2.2.2.2.2.2.2.2.1 (rT (B.2.2.2 i)).2.1 (rT (B.2.2.2 i)).2.2.1) p with | none => (-1004 : Int32) | some a => _) = _
  rw [e3]
theorem acc0 {b9 : Int32} : f_account B b9 0 = nI B.2.1 := if_pos rfl
theorem acc1 {b9 : Int32} : f_account B b9 1 = nI B.2.2.1 := by
  unfold f_account
  rw [if_neg (by decide), if_pos rfl]
theorem acc2 {b9 : Int32} : f_account B b9 2 = nI (CT B.1.2.2.2.2.2.2.1 B.1.2.2.2.2.2.2.2.1 B.1.2.2.2.2.2.2.2.2.1 B.2.2.2 B.2.2.1) := by
  unfold f_account
  rw [if_neg (by decide), if_neg (by decide), if_pos rfl]
end PT1
theorem n8 {n : Nat} (h : n < 8) : ∃ m, m < 8 ∧ (nI n : Int32) = nI m := ⟨n, h, rfl⟩
section PT2
variable {LS : List Nat} {SE : Nat → SV} {B : BB} {i p : Nat}
theorem okt (hB : BOK LS SE B) (hi : i < B.2.2.1) : OKT B.2.1 (B.2.2.2 i) := (hB.2.2.2.2.2.1 i hi).2.1
theorem rS24 (hB : BOK LS SE B) (hi : i < B.2.2.1) : (rS B i).1 ≤ 24 := (OKT_SH (okt hB hi)).1
theorem TY_none (h : TY B i = none) : ∀ q, q < (rS B i).1 → vG (tyP B.1.2.2.2.2.2.2.1 B.1.2.2.2.2.2.2.2.1 B.1.2.2.2.2.2.2.2.2.1 (rS B i).2.1 (rS B i).2.2.1) q ≠ none := by
  have h1 := FN_FV (tyP B.1.2.2.2.2.2.2.1 B.1.2.2.2.2.2.2.2.1 B.1.2.2.2.2.2.2.2.2.1 (rS B i).2.1 (rS B i).2.2.1) (rS B i).1
  have h2 : FN (tyP B.1.2.2.2.2.2.2.1 B.1.2.2.2.2.2.2.2.1 B.1.2.2.2.2.2.2.2.2.1 (rS B i).2.1 (rS B i).2.2.1) (rS B i).1 = none := h
  rw [h2] at h1
  exact h1
theorem TY_lt {q : Nat} (h : TY B i = some q) : q < (rS B i).1 := by
  have h1 := FN_FV (tyP B.1.2.2.2.2.2.2.1 B.1.2.2.2.2.2.2.2.1 B.1.2.2.2.2.2.2.2.2.1 (rS B i).2.1 (rS B i).2.2.1) (rS B i).1
  have h2 : FN (tyP B.1.2.2.2.2.2.2.1 B.1.2.2.2.2.2.2.2.1 B.1.2.2.2.2.2.2.2.2.1 (rS B i).2.1 (rS B i).2.2.1) (rS B i).1 = some q := h
  rw [h2] at h1
  exact h1.1
theorem stT_b {kd lo hi : Nat → Int32} {w : Nat} {v v' : TV} (h : stT kd lo hi w v = some v') : v' = v ∧ v.1 = kd w ∧ (v.1 = 0 → HL lo hi w v.2.1 = true ∧ HL lo hi w v.2.2 = true) := by
  unfold stT at h
  by_cases c : v.1 = kd w
  · rw [if_pos c] at h
    by_cases z : v.1 = 0
    · rw [if_pos z] at h
      by_cases g : HL lo hi w v.2.1 = true ∧ HL lo hi w v.2.2 = true
      · rw [if_pos g] at h
        exact ⟨(Option.some.inj h).symm, c, fun _ => g⟩
      · rw [if_neg g] at h; cases h
    · rw [if_neg z] at h
      exact ⟨(Option.some.inj h).symm, c, fun y => absurd y z⟩
  · rw [if_neg c] at h; cases h
theorem t7_b {kd lo hi : Nat → Int32} {k w : Nat → Nat} {q : Nat} (h7 : k q = 7) {v : TV} (h : vG (tyP kd lo hi k w) q = some v) : v.1 = 0 → ((lo (w q)).toInt ≤ v.2.1.toInt ∧ v.2.1.toInt ≤ (hi (w q)).toInt) ∧ ((lo (w q)).toInt ≤ v.2.2.toInt ∧ v.2.2.toInt ≤ (hi (w q)).toInt) := by
  rw [vG_eq] at h
  unfold tyP tyOp at h
  rw [h7] at h
  rw [if_neg (by decide), if_neg (by decide), if_neg (by decide), if_neg (by decide), if_pos rfl] at h
  cases hx : VG (tyP kd lo hi k w) q (SS k q (DD k q - fnd 7)) with
  | none => unfold tyP tyOp at hx; rw [hx] at h; cases h
  | some a =>
    unfold tyP tyOp at hx
    rw [hx] at h
    have h : stT kd lo hi (w q) a = some v := h
    obtain ⟨rfl, e, g⟩ := stT_b h
    intro z
    have := g z
    exact ⟨HL_i.mp this.1, HL_i.mp this.2⟩
theorem ty_boils (hB : BOK LS SE B) (hi : i < B.2.2.1) (h : TY B i = none) : f_boils B (nI i) = -14 := by
  have h4 := hB.2.1
  have h1 := typed_safe (okt hB hi) hB.1 hB.2.2.2.2.1 (TY_none h)
  have h2 : flC B.1.2.2.2.2.2.2.1 B.1.2.2.2.2.2.2.2.1 B.1.2.2.2.2.2.2.2.2.1 (CNo B) (B.2.2.2 i) = none := (FN_of h1).symm
  unfold f_boils
  rw [fx_in hi (by omega)]
  show (match flC B.1.2.2.2.2.2.2.1 B.1.2.2.2.2.2.2.2.1 B.1.2.2.2.2.2.2.2.2.1 (CNo B) (B.2.2.2 i) with | none => (-14 : Int32) | some q => _) = _
  rw [h2]
theorem i64s {v : Int64} (h1 : -99 ≤ v.toInt) (h2 : v.toInt ≤ 99) : v.toInt32.toInt = v.toInt := by
  rw [Int64.toInt_toInt32]
  rw [Int.bmod_eq_of_le] <;> omega
/-- the bounds of a store -/
theorem bound_is (hB : BOK LS SE B) (hi : i < B.2.2.1) (hn : TY B i = none) (hp : p < (rS B i).1) (h7 : (rS B i).2.1 p = 7) : ∃ lo hh : Int32, f_bound B (nI i) (nI (NS (rS B i).2.1 p)) 0 = lo ∧ f_bound B (nI i) (nI (NS (rS B i).2.1 p)) 1 = hh ∧ ((lo = -1004 ∧ hh = -1004) ∨ (-99 ≤ lo.toInt ∧ lo.toInt ≤ hh.toInt ∧ hh.toInt ≤ 99)) := by
  have h4 := hB.2.1
  have h24 := rS24 hB hi
  have ho := okt hB hi
  have hX := hB.2.2.2.2.1
  obtain ⟨t, v, e1, e2, e3⟩ := safe (OKT_SH ho) (OKT_w ho hB.1) (OKT_n ho) (CX_BND hX) (CX_CNH hX) (TY_none hn) (rS B i).1 (Nat.le_refl _) p hp
  refine ⟨_, _, bound_at hi h4 h24 hn hp h7 e1, bound_at hi h4 h24 hn hp h7 e1, ?_⟩
  by_cases z : t.1 = 0
  · rw [if_pos z, if_pos z, if_pos rfl, if_neg (by decide)]
    obtain ⟨⟨a1, a2⟩, a3, a4⟩ := t7_b h7 e1 z
    obtain ⟨⟨c1, c3, -⟩, -⟩ := e3
    have c2 := c3 (c1.trans z)
    have hw : (rS B i).2.2.1 p < 6 := OKT_w ho hB.1 p hp (Or.inr h7)
    have hb := hX ((rT (B.2.2.2 i)).2.2.1 p) hw
    refine Or.inr ?_
    rw [i64s (by omega) (by omega), i64s (by omega) (by omega)]
    omega
  · rw [if_neg z, if_neg z]
    exact Or.inl ⟨rfl, rfl⟩
theorem tok61 (hB : BOK LS SE B) (hi : i < B.2.2.1) (hp : p < (rS B i).1) : (nI ((rS B i).2.2.2.1 p) = (61 : Int32)) ↔ (rS B i).2.1 p = 7 := by
  obtain ⟨a1, -, -⟩ := (OKT_GS (okt hB hi)).1 p hp
  have a1 : FSk ((rS B i).2.1 p) ((rS B i).2.2.1 p) ((rS B i).2.2.2.1 p) := a1
  unfold FSk at a1
  have e : (61 : Int32) = nI 61 := rfl
  rw [e]
  constructor
  · intro h
    have := nI_inj (by omega) (by omega) h
    omega
  · intro h
    have : (rS B i).2.2.2.1 p = 61 := by omega
    rw [this]
end PT2
section PT3
variable {LS : List Nat} {SE : Nat → SV} {σ : AB} {K : Int32 → AB → Prop}
theorem nI_le9 {a b : Nat} (ha : a < 2147483648) (hb : b < 2147483648) : (nI a ≤ nI b) ↔ a ≤ b := by
  rw [Int32.le_iff_toInt_le, nI_toInt (by omega), nI_toInt (by omega)]
  omega
theorem nI_lt9 {a b : Nat} (ha : a < 2147483648) (hb : b < 2147483648) : (nI a < nI b) ↔ a < b := by
  rw [Int32.lt_iff_toInt_lt, nI_toInt (by omega), nI_toInt (by omega)]
  omega
theorem pt_inner (hB : BOK LS SE σ.1) {i : Nat} (hi : i < σ.1.2.2.1) {k9 : Int32 → Int32 → Int32 → AB → Prop} {x1 x2 : Int32} (hk : k9 x1 x2 (nI (i + 1)) σ) : ∀ n p, p ≤ (rS σ.1 i).1 → (rS σ.1 i).1 - p < n → wp_L_typed_b115 K k9 n x1 x2 (nI i) (if TY σ.1 i = none then 1 else 0) (nI (NS (rS σ.1 i).2.1 (rS σ.1 i).1)) (nI (NS (rS σ.1 i).2.1 p)) (nI p) σ := by
  have h4 := hB.2.1
  have h24 := rS24 hB hi
  have hend : wp_L_typed_b274 K k9 x1 x2 (nI i) σ := by
    intro v1 e
    rw [e, nI_1]
    exact hk
  intro n
  induction n with
  | zero => intro p _ h; omega
  | succ n ih =>
    intro p hp hm
    unfold wp_L_typed_b115
    intro r4 e4
    rw [sp0 hi h4] at e4
    rw [e4]
    refine ⟨fun c => ?_, fun c => ?_⟩
    · rw [nI_le9 (by omega) (by omega)] at c
      obtain rfl : p = (rS σ.1 i).1 := by omega
      refine ⟨fun _ => ?_, fun z => absurd rfl z⟩
      intro r5 e5
      have e6 : r5 = -1004 := e5.trans (bound_beyond hi h4 h24 out_n)
      refine ⟨fun _ => ?_, fun z => absurd e6 z⟩
      refine ⟨fun z => ?_, fun _ => hend⟩
      have hn : TY σ.1 i = none := by
        by_cases q : TY σ.1 i = none
        · exact q
        · rw [if_neg q] at z; exact absurd z (by decide)
      intro r6 e7
      have e8 : r6 = -14 := e7.trans (ty_boils hB hi hn)
      exact ⟨fun _ => hend, fun z => absurd e8 z⟩
    · rw [nI_le9 (by omega) (by omega)] at c
      have hp' : p < (rS σ.1 i).1 := by omega
      intro r7 e7
      rw [tok_in hi h4 hp' h24] at e7
      have hgo : ∀ j, j = NS (rS σ.1 i).2.1 (p + 1) → wp_L_typed_b229 K k9 (wp_L_typed_b115 K k9 n) x1 x2 (nI i) (if TY σ.1 i = none then 1 else 0) (nI (NS (rS σ.1 i).2.1 (rS σ.1 i).1)) (nI j) (nI p) σ := by
        intro j ej v2 e
        rw [e, nI_1, ej]
        exact ih (p + 1) (by omega) (by omega)
      refine ⟨fun z => ?_, fun z => ?_⟩
      · have h7 : (rS σ.1 i).2.1 p = 7 := (tok61 hB hi hp').mp (e7.symm.trans z)
        have hs : NS (rS σ.1 i).2.1 (p + 1) = NS (rS σ.1 i).2.1 p + 1 := by rw [NS_s, if_pos h7]
        have hgo2 : wp_L_typed_b226 K k9 (wp_L_typed_b115 K k9 n) x1 x2 (nI i) (if TY σ.1 i = none then 1 else 0) (nI (NS (rS σ.1 i).2.1 (rS σ.1 i).1)) (nI (NS (rS σ.1 i).2.1 p)) (nI p) σ := by
          intro v3 e
          rw [e, nI_1]
          exact hgo _ hs.symm
        intro r8 e8 r9 e9
        by_cases hn : TY σ.1 i = none
        · obtain ⟨lo, hh, b1, b2, b3⟩ := bound_is hB hi hn hp' h7
          have e8 : r8 = lo := e8.trans b1
          have e9 : r9 = hh := e9.trans b2
          subst e8
          subst e9
          rw [if_pos hn] at hgo2 ⊢
          refine ⟨fun _ => ?_, fun z => absurd rfl z⟩
          have t1 : (-1000 : Int32).toInt = -1000 := rfl
          have t2 : (-99 : Int32).toInt = -99 := rfl
          have t3 : (99 : Int32).toInt = 99 := rfl
          rcases b3 with ⟨b4, b5⟩ | ⟨b4, b5, b6⟩
          · refine ⟨fun _ => ?_, fun z => absurd (by rw [b4]; decide) z⟩
            refine ⟨fun _ => ⟨fun _ => ⟨fun _ => hgo2, fun z => absurd b5 z⟩, fun z => absurd b4 z⟩, fun z => absurd rfl z⟩
          · refine ⟨fun z => ?_, fun _ => ?_⟩
            · rw [Int32.le_iff_toInt_le] at z; omega
            · refine ⟨fun z => absurd z (by decide), fun _ => ⟨fun z => ?_, fun _ => ⟨fun z => ?_, fun _ => ⟨fun _ => hgo2, fun z => ?_⟩⟩⟩⟩
              · rw [Int32.lt_iff_toInt_lt] at z; omega
              · rw [Int32.lt_iff_toInt_lt] at z; omega
              · rw [Int32.le_iff_toInt_le] at z; omega
        · have e8 : r8 = -1004 := e8.trans (bound_no hi h4 hn)
          have e9 : r9 = -1004 := e9.trans (bound_no hi h4 hn)
          rw [if_neg hn] at hgo2 ⊢
          refine ⟨fun z => absurd z (by decide), fun _ => ?_⟩
          refine ⟨fun _ => ⟨fun _ => ⟨fun _ => hgo2, fun z => absurd e9 z⟩, fun z => absurd e8 z⟩, fun z => absurd rfl z⟩
      · have h7 : ¬ (rS σ.1 i).2.1 p = 7 := fun h => z (e7.trans ((tok61 hB hi hp').mpr h))
        exact hgo _ (by rw [NS_s, if_neg h7]; rfl)
theorem fcmp_self : ∀ a, a < 5 → ∀ b, b < 5 → b ≠ 0 → Op.cmpValue (FP.fcmp (FP.fdiv (FP.i2f (nI a)) (FP.i2f (nI b))) (FP.fdiv (FP.i2f (nI a)) (FP.i2f (nI b)))) .l = 0 := by decide +kernel
theorem pt_outer (hB : BOK LS SE σ.1) (hK : K 1 σ) : ∀ n i, i ≤ σ.1.2.2.1 → σ.1.2.2.1 - i < n → wp_L_typed_b10 K n (nI (CT σ.1.1.2.2.2.2.2.2.1 σ.1.1.2.2.2.2.2.2.2.1 σ.1.1.2.2.2.2.2.2.2.2.1 σ.1.2.2.2 i)) (nI σ.1.2.2.1) (nI i) σ := by
  have h4 := hB.2.1
  intro n
  induction n with
  | zero => intro i _ h; omega
  | succ n ih =>
    intro i hi hm
    unfold wp_L_typed_b10
    have hc9 := CT_le σ.1.1.2.2.2.2.2.2.1 σ.1.1.2.2.2.2.2.2.2.1 σ.1.1.2.2.2.2.2.2.2.2.1 σ.1.2.2.2 i
    refine ⟨fun c => ?_, fun c => ?_⟩
    · rw [nI_le9 (by omega) (by omega)] at c
      obtain rfl : i = σ.1.2.2.1 := by omega
      intro r15 e15
      refine ⟨fun _ => ?_, fun z => absurd (e15.trans acc2) z⟩
      refine ⟨n8 (by decide), ?_⟩
      intro r16 e16
      refine ⟨fun _ => ?_, fun z => absurd (e16.trans acc2) z⟩
      intro r17 e17
      refine ⟨fun _ => ?_, fun z => absurd (e17.trans (types_out h4 out_n)) z⟩
      intro r18 e18
      refine ⟨fun _ => ?_, fun z => absurd (e18.trans (types_out h4 out_m1)) z⟩
      intro r19 e19
      refine ⟨fun _ => ?_, fun z => absurd (e19.trans (fault_out h4 out_n)) z⟩
      intro r20 e20
      refine ⟨fun _ => ?_, fun z => absurd (e20.trans (bound_out h4 out_n)) z⟩
      have hfin : wp_L_typed_b357 K σ := ⟨rfl, hK⟩
      refine ⟨fun _ => hfin, fun z => ?_⟩
      have hz : σ.1.2.2.1 ≠ 0 := fun q => z (by rw [q]; rfl)
      refine ⟨hz, fun r21 e21 => ⟨(share_n _ (by omega) _ (by omega) hz).1, fun _ => hfin, fun q => ?_⟩⟩
      rw [e21] at q
      exact absurd (fcmp_self _ (by omega) _ (by omega) hz) q
    · rw [nI_le9 (by omega) (by omega)] at c
      have hi' : i < σ.1.2.2.1 := by omega
      have h24 := rS24 hB hi'
      intro r22 e22 r23 e23 r24 e24
      rw [types_in hi' h4] at e22
      rw [sp1 hi' h4] at e23
      rw [fault_in hi' h4] at e24
      subst e22
      subst e23
      have hin : wp_L_typed_b109 K (wp_L_typed_b10 K n) (nI (CT σ.1.1.2.2.2.2.2.2.1 σ.1.1.2.2.2.2.2.2.2.1 σ.1.1.2.2.2.2.2.2.2.2.1 σ.1.2.2.2 (i + 1))) (nI σ.1.2.2.1) (nI i) (if TY σ.1 i = none then 1 else 0) (nI (NS (rS σ.1 i).2.1 (rS σ.1 i).1)) σ :=
        pt_inner hB hi' (ih (i + 1) (by omega) (by omega)) 26 0 (Nat.zero_le _) (by omega)
      have hct : nI (CT σ.1.1.2.2.2.2.2.2.1 σ.1.1.2.2.2.2.2.2.2.1 σ.1.1.2.2.2.2.2.2.2.2.1 σ.1.2.2.2 i) + (if TY σ.1 i = none then (1 : Int32) else 0) = nI (CT σ.1.1.2.2.2.2.2.2.1 σ.1.1.2.2.2.2.2.2.2.1 σ.1.1.2.2.2.2.2.2.2.2.1 σ.1.2.2.2 (i + 1)) := by
        by_cases q : TY σ.1 i = none
        · rw [if_pos q, show CT σ.1.1.2.2.2.2.2.2.1 σ.1.1.2.2.2.2.2.2.2.1 σ.1.1.2.2.2.2.2.2.2.2.1 σ.1.2.2.2 (i + 1) = CT σ.1.1.2.2.2.2.2.2.1 σ.1.1.2.2.2.2.2.2.2.1 σ.1.1.2.2.2.2.2.2.2.2.1 σ.1.2.2.2 i + (if TB σ.1.1.2.2.2.2.2.2.1 σ.1.1.2.2.2.2.2.2.2.1 σ.1.1.2.2.2.2.2.2.2.2.1 (σ.1.2.2.2 i) = true then 1 else 0) from rfl, if_pos (TB_fl.mpr q), nI_1]
        · rw [if_neg q, show CT σ.1.1.2.2.2.2.2.2.1 σ.1.1.2.2.2.2.2.2.2.1 σ.1.1.2.2.2.2.2.2.2.2.1 σ.1.2.2.2 (i + 1) = CT σ.1.1.2.2.2.2.2.2.1 σ.1.1.2.2.2.2.2.2.2.1 σ.1.1.2.2.2.2.2.2.2.2.1 σ.1.2.2.2 i + (if TB σ.1.1.2.2.2.2.2.2.1 σ.1.1.2.2.2.2.2.2.2.1 σ.1.1.2.2.2.2.2.2.2.2.1 (σ.1.2.2.2 i) = true then 1 else 0) from rfl, if_neg (fun z => q (TB_fl.mp z))]
          exact Int32.add_zero _
      by_cases hn : TY σ.1 i = none
      · have e24 : r24 = -14 := by rw [e24, hn]
        refine ⟨fun _ => ?_, fun z => absurd e24 z⟩
        unfold wp_L_typed_b45
        intro v12 e12 r13 e13
        rw [hct] at e12
        rw [types_in hi' h4] at e13
        refine ⟨fun _ => ?_, fun z => absurd e13.symm z⟩
        intro r14 e14
        rw [sp3 hi' h4] at e14
        refine ⟨fun _ => ?_, fun z => absurd e14.symm z⟩
        rw [e12]
        refine ⟨fun z => absurd z (by decide), fun _ => ?_⟩
        unfold wp_L_typed_b85
        refine ⟨fun _ => ⟨fun z => absurd z (by decide), fun _ => hin⟩, fun z => absurd (if_pos hn) z⟩
      · obtain ⟨q, hq⟩ := Option.ne_none_iff_exists'.mp hn
        have hlt := TY_lt hq
        have e24 : r24 = nI q := by rw [e24, hq]
        have hne : r24 ≠ -14 := fun z => by
          have := congrArg Int32.toInt (e24.symm.trans z)
          rw [nI_toInt (by omega)] at this
          have t : (-14 : Int32).toInt = -14 := rfl
          omega
        refine ⟨fun z => absurd z hne, fun _ => ?_⟩
        unfold wp_L_typed_b45
        intro v12 e12 r13 e13
        rw [hct] at e12
        rw [types_in hi' h4] at e13
        refine ⟨fun _ => ?_, fun z => absurd e13.symm z⟩
        intro r14 e14
        rw [sp3 hi' h4] at e14
        refine ⟨fun _ => ?_, fun z => absurd e14.symm z⟩
        rw [e12]
        refine ⟨fun _ => ?_, fun z => absurd rfl z⟩
        unfold wp_L_typed_b85
        refine ⟨fun _ => ⟨fun _ => ?_, fun _ => hin⟩, fun z => absurd (if_neg hn) z⟩
        intro r10 e10 r11 e11
        rw [fault_in hi' h4, hq] at e10
        rw [sp0 hi' h4] at e11
        refine ⟨fun _ => hin, fun z => absurd ?_ z⟩
        rw [e10, e11]
        exact (nI_lt9 (by omega) (by omega)).mpr hlt
theorem pt_typed (hB : BOK LS SE σ.1) (hK : K 1 σ) : wp_L_typed K σ := by
  have h4 := hB.2.1
  refine ⟨n8 (by decide), fun r25 e25 => ?_⟩
  rw [e25, acc1]
  exact pt_outer hB hK 5 0 (Nat.zero_le _) (by omega)
end PT3
