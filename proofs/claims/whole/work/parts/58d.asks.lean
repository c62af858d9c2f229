/-! THE CALLS that only ask: where the input is malformed, why a call was refused -/
section ASKS
variable {n4 : Nat} {kp rs de hc ca cd th ke p1 p2 : Int32} {rf : Nat → Int32} {ans : Nat → Int64}
theorem op_errorPosition (hk : ke = -1 ∨ 0 ≤ ke) (hn : 0 < n4) (hn9 : n4 < 2147483648) : Ok (g_L_errorPosition n4 ke ans) (fun o => Ok (g_X12_errorPosition th ke) (fun o' => o.1 = o'.2 ∧ (o.1 = 0 → o.2 = vp_updL ans 0 o'.1.toInt64) ∧ (o.1 ≠ 0 → o.2 = ans))) := by
  have hgc : inb 0 n4 = true := decide_eq_true ⟨by decide, by show (0 : Int) < n4; omega⟩
  unfold g_L_errorPosition g_X11_errorPosition
  rcases hk with h | h
  · subst h
    refine ok_be (if_pos rfl) (ok_f (show ¬ (3 : Int32) = 0 by decide) (ok_t rfl (ok_s ?_)))
    unfold g_X12_errorPosition
    refine ok_f (by decide) ?_
    unfold g_X12_errorPosition_b13
    exact ok_f (by decide) (ok_s ⟨rfl, fun z => absurd z (show ¬ (1 : Int32) = 0 by decide), fun _ => rfl⟩)
  · have hne : ¬ ke = -1 := by
      intro z
      subst z
      exact absurd h (by decide)
    refine ok_be (if_neg hne) (ok_t rfl (ok_c hgc (ok_s ?_)))
    unfold g_X12_errorPosition
    refine ok_t h ?_
    unfold g_X12_errorPosition_b13
    exact ok_t (by decide) (ok_s ⟨rfl, fun _ => rfl, fun z => absurd rfl z⟩)
theorem k_reasonN {s0 : Int32} (e : s0 = 0 ∨ s0 = 2) (h : rf s0.toNatClampNeg = 0) : g_X12_reason_b9 rf p2 s0 = some (0, 1) := by
  unfold g_X12_reason_b9
  have hi : inb s0 4 = true := by rcases e with e | e <;> subst e <;> rfl
  rw [hi, if_pos h]
  rfl
theorem k_reasonY0 (h : ¬ rf 0 = 0) : g_X12_reason_b9 rf p2 0 = some (if p2 = 0 then rf 0 else rf 1, 0) := by
  unfold g_X12_reason_b9
  show (if rf 0 = 0 then _ else _) = _
  rw [if_neg h]
  unfold g_X12_reason_b25
  rw [if_pos (show (0 : Int32) ≤ 0 by decide)]
  show (if p2 = 0 then some (rf 0, (0 : Int32)) else some (rf 1, 0)) = _
  split <;> rfl
theorem k_reasonY2 (h : ¬ rf 2 = 0) : g_X12_reason_b9 rf p2 2 = some (if p2 = 0 then rf 2 else rf 3, 0) := by
  unfold g_X12_reason_b9
  show (if rf 2 = 0 then _ else _) = _
  rw [if_neg h]
  unfold g_X12_reason_b25
  rw [if_pos (show (0 : Int32) ≤ 0 by decide)]
  show (if p2 = 0 then some (rf 2, (0 : Int32)) else some (rf 3, 0)) = _
  split <;> rfl
theorem op_reason (hR : RFR kp rs de hc ca cd rf) (hn : 0 < n4) (hn9 : n4 < 2147483648) : Ok (g_L_reason n4 ans kp rs de hc ca cd p1 p2) (fun o => Ok (g_X12_reason th rf p1 p2) (fun o' => o.1 = o'.2 ∧ (o.1 = 0 → o.2 = vp_updL ans 0 o'.1.toInt64) ∧ (o.1 ≠ 0 → o.2 = ans))) := by
  have hgc : inb 0 n4 = true := decide_eq_true ⟨by decide, by show (0 : Int) < n4; omega⟩
  have no : ∀ {r : Int32 × Int32} {m : Option (Int32 × Int32)}, r = (3, 0) → m = some (0, 1) → Ok (if r.1 = 0 then gc (inb (0 : Int32) n4) (some (0, vp_updL ans (0 : Int32).toNatClampNeg r.2.toInt64)) else if r.1 = 3 then some (1, ans) else none) (fun o => Ok m (fun o' => o.1 = o'.2 ∧ (o.1 = 0 → o.2 = vp_updL ans 0 o'.1.toInt64) ∧ (o.1 ≠ 0 → o.2 = ans))) := by
    intro r m e1 e2
    subst e1 e2
    exact ok_f (show ¬ (3 : Int32) = 0 by decide) (ok_t rfl (ok_s (ok_s ⟨rfl, fun z => absurd z (show ¬ (1 : Int32) = 0 by decide), fun _ => rfl⟩)))
  have yes : ∀ {x : Int32} {m : Option (Int32 × Int32)}, m = some (x, 0) → Ok (if (0, x).1 = (0 : Int32) then gc (inb (0 : Int32) n4) (some ((0 : Int32), vp_updL ans (0 : Int32).toNatClampNeg (0, x).2.toInt64)) else if (0, x).1 = (3 : Int32) then some (1, ans) else none) (fun o => Ok m (fun o' => o.1 = o'.2 ∧ (o.1 = 0 → o.2 = vp_updL ans 0 o'.1.toInt64) ∧ (o.1 ≠ 0 → o.2 = ans))) := by
    intro x m e
    subst e
    exact ok_t rfl (ok_c hgc (ok_s (ok_s ⟨rfl, fun _ => rfl, fun z => absurd rfl z⟩)))
  unfold g_L_reason g_X11_reason g_X12_reason
  rcases hR with ⟨e0, e1, e2⟩ | ⟨e0, e1, e2, e3, e4⟩
  · refine ok_be (if_pos e0) (no rfl ?_)
    split
    · exact k_reasonN (Or.inl rfl) e1
    · exact k_reasonN (Or.inr rfl) e2
  · have h0 : ¬ kp = 0 := by
      rw [e0]
      decide
    by_cases hp : p1 = 0
    · have hy := k_reasonY0 (p2 := p2) (fun z => e2 (e1.symm.trans z))
      by_cases hp2 : p2 = 0
      · refine ok_be ((if_neg h0).trans ((if_pos hp).trans (if_pos hp2))) (yes ?_)
        rw [if_pos hp, hy, if_pos hp2, e1]
      · refine ok_be ((if_neg h0).trans ((if_pos hp).trans (if_neg hp2))) (yes ?_)
        rw [if_pos hp, hy, if_neg hp2, e3]
    · rcases e4 with ⟨e5, e6⟩ | ⟨e5, e6, e7, e8⟩
      · refine ok_be ((if_neg h0).trans ((if_neg hp).trans (if_pos e5))) (no rfl ?_)
        rw [if_neg hp]
        exact k_reasonN (Or.inr rfl) e6
      · have h1 : ¬ hc = 0 := by
          rw [e5]
          decide
        have hy := k_reasonY2 (p2 := p2) (fun z => e7 (e6.symm.trans z))
        by_cases hp2 : p2 = 0
        · refine ok_be ((if_neg h0).trans ((if_neg hp).trans ((if_neg h1).trans (if_pos hp2)))) (yes ?_)
          rw [if_neg hp, hy, if_pos hp2, e6]
        · refine ok_be ((if_neg h0).trans ((if_neg hp).trans ((if_neg h1).trans (if_neg hp2)))) (yes ?_)
          rw [if_neg hp, hy, if_neg hp2, e8]
end ASKS
