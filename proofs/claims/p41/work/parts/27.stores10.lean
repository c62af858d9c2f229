/-! BY STORES: each token that lays a spoon is a part of a token behind it -/
theorem SS_no7 (k : Nat → Nat) : ∀ (p i : Nat), i < DD k p → k (SS k p i) ≠ 7
  | 0, i, h => absurd h (Nat.not_lt_zero i)
  | p + 1, i, h => by
    by_cases hc : k p ≠ 7 ∧ i + 1 = DD k (p + 1)
    · rw [SS_top hc.1 hc.2]; exact hc.1
    · have h1 : SS k (p + 1) i = SS k p i := if_neg hc
      rw [h1]
      refine SS_no7 k p i ?_
      rw [DD_s] at h hc
      unfold ly at h hc
      by_cases h7 : k p = 7
      · rw [if_pos h7] at h; omega
      · rw [if_neg h7] at h hc
        have : ¬ (i + 1 = DD k p - fnd (k p) + 1) := fun q => hc ⟨h7, q⟩
        omega
theorem fnd_le (k : Nat) : fnd k ≤ 2 := by unfold fnd; repeat' split
                                           all_goals omega
theorem parent {T : Nat} {k : Nat → Nat} (hsh : SH T k) {p i : Nat} : ∀ (m r : Nat), r + m = T → i < DD k r → SS k r i = p → ∃ r', r ≤ r' ∧ r' < T ∧ ((0 < fnd (k r') ∧ SS k r' (DD k r' - fnd (k r')) = p) ∨ (fnd (k r') = 2 ∧ SS k r' (DD k r' - 1) = p))
  | 0, r, hr, hi, hs => by
    have : r = T := by omega
    rw [this, hsh.2.1] at hi
    exact absurd hi (Nat.not_lt_zero i)
  | m + 1, r, hr, hi, hs => by
    have hf2 := fnd_le (k r)
    by_cases c : i < DD k r - fnd (k r)
    · have hd := DD_s k r
      have hl : ly (k r) = 0 ∨ ly (k r) = 1 := by unfold ly; split <;> omega
      have h7 : k r = 7 ∨ i + 1 ≠ DD k (r + 1) := by
        by_cases h7 : k r = 7
        · exact Or.inl h7
        · have : ly (k r) = 1 := if_neg h7
          exact Or.inr (by omega)
      obtain ⟨r', h1, h2, h3⟩ := parent hsh m (r + 1) (by omega) (by omega) ((SS_old h7).trans hs)
      exact ⟨r', by omega, h2, h3⟩
    · refine ⟨r, Nat.le_refl _, by omega, ?_⟩
      by_cases e : i = DD k r - fnd (k r)
      · exact Or.inl ⟨by omega, by rw [← e]; exact hs⟩
      · exact Or.inr ⟨by omega, by rw [show DD k r - 1 = i by omega]; exact hs⟩
/-- what has a part without a value has none -/
def STRICT {α : Type} (k : Nat → Nat) (op : Nat → (Nat → Option α) → Option α) : Prop := ∀ p V, (0 < fnd (k p) → V (SS k p (DD k p - fnd (k p))) = none → op p V = none) ∧ (fnd (k p) = 2 → V (SS k p (DD k p - 1)) = none → op p V = none)
theorem failing_store {α : Type} {T : Nat} {k : Nat → Nat} {op : Nat → (Nat → Option α) → Option α} (hsh : SH T k) (hst : STRICT k op) : ∀ (m q : Nat), T - q ≤ m → q < T → vG op q = none → ∃ r, q ≤ r ∧ r < T ∧ k r = 7 ∧ vG op r = none
  | 0, q, hm, hq, _ => by omega
  | m + 1, q, hm, hq, hv => by
    by_cases h7 : k q = 7
    · exact ⟨q, Nat.le_refl _, hq, h7, hv⟩
    · obtain ⟨h7', hf, h5⟩ := hsh.2.2 q hq
      have hl : ly (k q) = 1 := if_neg h7
      have hd := DD_s k q
      obtain ⟨r, h1, h2, h3⟩ := parent hsh (p := q) (i := DD k (q + 1) - 1) (T - (q + 1)) (q + 1) (by omega) (by omega) (SS_top h7 (by omega))
      have hr : vG op r = none := by
        rw [vG_eq]
        rcases h3 with ⟨g1, g2⟩ | ⟨g1, g2⟩
        · refine (hst r _).1 g1 ?_
          rw [g2, VG_old r (by omega)]
          exact hv
        · refine (hst r _).2 g1 ?_
          rw [g2, VG_old r (by omega)]
          exact hv
      obtain ⟨r', j1, j2, j3, j4⟩ := failing_store hsh hst m r (by omega) h2 hr
      exact ⟨r', by omega, j2, j3, j4⟩
theorem tyP_strict {kd lo hi : Nat → Int32} {k w : Nat → Nat} : STRICT k (tyP kd lo hi k w) := by
  intro p V
  unfold tyP tyOp
  constructor
  · intro h1 h2
    rw [h2]
    have h0 : k p ≠ 0 := fun z => by rw [z] at h1; exact absurd h1 (by decide)
    have h1' : k p ≠ 1 := fun z => by rw [z] at h1; exact absurd h1 (by decide)
    rw [if_neg h0, if_neg h1']
    repeat' split
    all_goals rfl
  · intro h1 h2
    rw [h2]
    have hk : k p ≠ 0 ∧ k p ≠ 1 ∧ k p ≠ 5 ∧ k p ≠ 6 ∧ k p ≠ 7 := by
      refine ⟨?_, ?_, ?_, ?_, ?_⟩ <;> exact fun z => by rw [z] at h1; exact absurd h1 (by decide)
    rw [if_neg hk.1, if_neg hk.2.1, if_neg hk.2.2.1, if_neg hk.2.2.2.1, if_neg hk.2.2.2.2]
    cases V (SS k p (DD k p - fnd (k p))) <;> rfl
theorem ckP_strict {kd lo hi : Nat → Int32} {CN : Nat → CV} {k w : Nat → Nat} : STRICT k (ckP kd lo hi CN k w) := by
  intro p V
  unfold ckP ckOp
  constructor
  · intro h1 h2
    rw [h2]
    have h0 : k p ≠ 0 := fun z => by rw [z] at h1; exact absurd h1 (by decide)
    have h1' : k p ≠ 1 := fun z => by rw [z] at h1; exact absurd h1 (by decide)
    rw [if_neg h0, if_neg h1']
    repeat' split
    all_goals rfl
  · intro h1 h2
    rw [h2]
    have hk : k p ≠ 0 ∧ k p ≠ 1 ∧ k p ≠ 5 ∧ k p ≠ 6 ∧ k p ≠ 7 := by
      refine ⟨?_, ?_, ?_, ?_, ?_⟩ <;> exact fun z => by rw [z] at h1; exact absurd h1 (by decide)
    rw [if_neg hk.1, if_neg hk.2.1, if_neg hk.2.2.1, if_neg hk.2.2.2.1, if_neg hk.2.2.2.2]
    cases V (SS k p (DD k p - fnd (k p))) <;> rfl
/-! the class's typing by stores: small programs -/
section K10
variable {kd lo hi iB : Nat → Int32} {l h : Nat → Int64} {p q r w : Nat}
theorem k10_b (hp : p < 24) : g_X10_tellsBroth iB (nI p) = some (nI 1, upd iB p (nI 1)) := by
  unfold g_X10_tellsBroth
  simp (disch := omega) only [x_inb, e_gcT, x_cl]
  rfl
def ex2 (a b : Int64) : Int32 := if exc3 a = nI 0 ∧ exc3 b = nI 0 then nI 1 else nI 0
theorem ex2_bo {a b : Int64} : bo (ex2 a b) = true := by unfold ex2; split <;> rfl
theorem k10_d (hp : p < 24) (a b : Int64) : g_X10_tellsDrams iB l h (nI p) a b = some (ex2 a b, upd iB p (nI 0), vp_updL l p a, vp_updL h p b) := by
  unfold g_X10_tellsDrams ex2
  simp (disch := omega) only [x_inb, e_gcT, x_cl, x_nb0, c_0, k_X5_excess, e_gbS]
  by_cases h1 : exc3 a = nI 0
  · by_cases h2 : exc3 b = nI 0
    · simp only [h1, h2, ↓reduceIte, and_self]; rfl
    · simp only [h1, h2, ↓reduceIte, and_false]; rfl
  · simp only [h1, ↓reduceIte, false_and]; rfl
theorem k10_take (hp : p < 24) (hw : w < 6) : g_X10_passesTake kd lo hi iB l h (nI p) (nI w) = some (if kd w = nI 0 then (ex2 (lo w).toInt64 (hi w).toInt64, upd iB p (nI 0), vp_updL l p (lo w).toInt64, vp_updL h p (hi w).toInt64) else (nI 1, upd iB p (nI 1), l, h)) := by
  unfold g_X10_passesTake
  simp (disch := omega) only [x_inb, e_gcT, x_cl, c_0, c_6, x_ltT, x_ltF, ↓reduceIte, k10_d, k10_b, e_gbS, ex2_bo, x_bon1]
  split <;> rfl
theorem k10_cast0 (hp : p < 24) (hq : q < 24) : g_X10_passesCast iB l h (nI p) (nI q) (nI 0) = some (if iB q = nI 0 then (nI 0, iB, l, h) else (ex2 (-99) 99, upd iB p (nI 0), vp_updL l p (-99), vp_updL h p 99)) := by
  unfold g_X10_passesCast
  simp (disch := omega) only [x_inb, e_gcT, x_cl, c_0, ↓reduceIte, k10_d, k10_b, e_gbS, ex2_bo]
  split <;> rfl
theorem k10_cast1 (hp : p < 24) (hq : q < 24) : g_X10_passesCast iB l h (nI p) (nI q) (nI 1) = some (if iB q = nI 1 then (nI 0, iB, l, h) else (nI 1, upd iB p (nI 1), l, h)) := by
  unfold g_X10_passesCast
  simp (disch := omega) only [x_inb, e_gcT, x_cl, c_0, c_1, x_eqF, ↓reduceIte, k10_d, k10_b, e_gbS, x_bon1]
  split <;> rfl
theorem k10_rk {k : Nat} (hp : p < 24) (hq : q < 24) (hr : r < 24) : g_X10_passesReckoning iB l h (nI k) (nI p) (nI q) (nI r) = some (if iB q = nI 0 then (if iB r = nI 0 then (ex2 (lo4 (nI k) (l q) (h q) (l r) (h r)) (hi4 (nI k) (l q) (h q) (l r) (h r)), upd iB p (nI 0), vp_updL l p (lo4 (nI k) (l q) (h q) (l r) (h r)), vp_updL h p (hi4 (nI k) (l q) (h q) (l r) (h r))) else (nI 0, iB, l, h)) else (if iB r = nI 0 then (nI 0, iB, l, h) else (nI 1, upd iB p (nI 1), l, h))) := by
  unfold g_X10_passesReckoning g_X10_passesReckoning_b19
  simp (disch := omega) only [x_inb, e_gcT, x_cl, c_0, c_1, x_eqF, ↓reduceIte, k_X5_lowest, k_X5_highest, k10_d, k10_b, e_gbS, ex2_bo]
  by_cases h1 : iB q = nI 0
  · by_cases h2 : iB r = nI 0
    · simp only [h1, h2, ↓reduceIte]
    · simp (disch := omega) only [h1, h2, ↓reduceIte]
  · by_cases h2 : iB r = nI 0
    · simp only [h1, h2, ↓reduceIte]
    · simp (disch := omega) only [h1, h2, ↓reduceIte, x_eqF]
end K10
