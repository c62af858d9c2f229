/-! rows of the whole claim that speak of the class alone (gen/pure1.py) -/
def LB (k w : Nat → Nat) (nc p : Nat) : Prop := (k p = 0 ∨ k p = 7) ∧ nc ≤ w p
def PBS (T : Nat) (k w : Nat → Nat) (nc : Nat) (r : Option Nat) : Prop := match r with
  | none => ∀ p, p < T → ¬ LB k w nc p
  | some q => q < T ∧ LB k w nc q ∧ ∀ p, p < q → ¬ LB k w nc p
section
variable {T : Nat} {k w f : Nat → Nat} {nc : Nat} {ks vs sg nu : Nat → Int32}
theorem l6_pb (hT : T ≤ 24) (hn : nc ≤ 6) (h7 : ∀ p, p < T → k p ≤ 7) (hw : ∀ p, p < T → (k p = 0 ∨ k p = 7) → w p < 6) (hR : ∀ p, p < T → ks p = nI (k p) ∧ vs p = nI (w p)) :
    ∀ (n p : Nat), p ≤ T → T - p < n → (∀ q, q < p → ¬ LB k w nc q) → Ok (g_X6_placeBeyond_b2 (nI T) ks vs (nI nc) n (nI p)) (fun o => ∃ r, PBS T k w nc r ∧ o = fcode r)
  | 0, p, _, h, _ => absurd h (Nat.not_lt_zero _)
  | n + 1, p, hp, hm, hq => by
    unfold g_X6_placeBeyond_b2
    by_cases e : p = T
    · subst e
      exact ok_t (nI_le (Nat.le_refl _) (by omega)) (ok_s ⟨none, hq, rfl⟩)
    · have hp' : p < T := by omega
      obtain ⟨r1, r2⟩ := hR p hp'
      have h7p := h7 p hp'
      have go36 : (k p = 0 ∨ k p = 7) → Ok (g_X6_placeBeyond_b36 (nI T) ks vs (nI nc) (g_X6_placeBeyond_b2 (nI T) ks vs (nI nc) n) (nI p)) (fun o => ∃ r, PBS T k w nc r ∧ o = fcode r) := by
        intro hk
        have hw' := hw p hp' hk
        unfold g_X6_placeBeyond_b36 g_X6_placeBeyond_b48
        refine ok_c (x_inb (by omega) (by omega)) ?_
        rw [x_cl (by omega), r2]
        by_cases g : w p < nc
        · refine ok_t (nI_lt g (by omega)) (ok_l ?_)
          rw [nI_1]
          exact l6_pb hT hn h7 hw hR n (p + 1) (by omega) (by omega) (fun q hq' => by
            by_cases c : q = p
            · rw [c]; exact fun z => absurd z.2 (Nat.not_le.mpr g)
            · exact hq q (by omega))
        · exact ok_f (nI_nlt (by omega) (by omega)) (ok_s ⟨some p, ⟨hp', ⟨hk, by omega⟩, hq⟩, rfl⟩)
      refine ok_f (nI_ge hp' (by omega)) (ok_f (show ¬ (24 : Int32) ≤ nI p from nI_ge (show p < 24 by omega) (show (24 : Nat) < 2147483648 by omega)) (ok_c (x_inb (by omega) (by omega)) ?_))
      rw [x_cl (by omega), r1]
      by_cases e0 : k p = 0
      · exact ok_t (by rw [e0]; rfl) (go36 (Or.inl e0))
      · refine ok_f (fun z => e0 (nI_inj (by omega) (by omega) (show nI (k p) = nI 0 from z))) (ok_c (x_inb (by omega) (by omega)) ?_)
        by_cases e7 : k p = 7
        · exact ok_t (by rw [e7]; rfl) (go36 (Or.inr e7))
        · refine ok_f (fun z => e7 (nI_inj (by omega) (by omega) (show nI (k p) = nI 7 from z))) ?_
          unfold g_X6_placeBeyond_b48
          refine ok_l ?_
          rw [nI_1]
          exact l6_pb hT hn h7 hw hR n (p + 1) (by omega) (by omega) (fun q hq' => by
            by_cases c : q = p
            · rw [c]; exact fun z => z.1.elim e0 e7
            · exact hq q (by omega))
theorem k6_pb (hT : T ≤ 24) (hn : nc ≤ 6) (h7 : ∀ p, p < T → k p ≤ 7) (hw : ∀ p, p < T → (k p = 0 ∨ k p = 7) → w p < 6) (hR : ∀ p, p < T → ks p = nI (k p) ∧ vs p = nI (w p)) : Ok (g_X6_placeBeyond (nI T) ks vs (nI nc)) (fun o => ∃ r, PBS T k w nc r ∧ o = fcode r) := by
  unfold g_X6_placeBeyond
  exact l6_pb hT hn h7 hw hR 100 0 (Nat.zero_le _) (by omega) (fun q z => absurd z (Nat.not_lt_zero q))
theorem PBS_one {r r' : Option Nat} (h : PBS T k w nc r) (h' : PBS T k w nc r') : r = r' := by
  cases r with
  | none => cases r' with
    | none => rfl
    | some q => exact absurd h'.2.1 (h q h'.1)
  | some q => cases r' with
    | none => exact absurd h.2.1 (h' q h.1)
    | some q' =>
      by_cases c : q = q'
      · rw [c]
      · rcases Nat.lt_or_gt_of_ne c with c | c
        · exact absurd h.2.1 (h'.2.2 q c)
        · exact absurd h'.2.1 (h.2.2 q' c)
end
