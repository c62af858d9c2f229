/-! the class's typing by stores: a store, a text -/
section S10C
variable {T : Nat} {k w : Nat → Nat} {kd lo hi : Nat → Int32} {ks vs ps ls : Nat → Int32}
theorem s10 (hsh : SH T k) (hR : SPR T k w ks vs ps ls) (hw : ∀ p, p < T → (k p = 0 ∨ k p = 7) → w p < 6) (hw1 : ∀ p, p < T → k p = 1 → w p ≤ 99) (hB : BND kd lo hi) {p : Nat} (hp : p < T) (e : k p = 7) (iB : Nat → Int32) (l h : Nat → Int64) :
    Ok (g_X10_passesStore (nI T) ps vs ks iB l h ls kd lo hi (nI p)) (fun o => o.1 = if vG (tyP kd lo hi k w) p = none then nI 0 else nI 1) := by
  have hT := hsh.1
  obtain ⟨h7, hf, h5⟩ := hsh.2.2 p hp
  obtain ⟨r1, r2, r3, r4⟩ := hR p hp
  have hw' := hw p hp (Or.inr e)
  obtain ⟨b1, b2, b3, b4⟩ := hB _ hw'
  have ht := vT_at kd lo hi k w p
  unfold tyOp at ht
  have hf0 : 0 < fnd (k p) := by rw [e]; decide
  have hi1 : DD k p - fnd (k p) < DD k p := by omega
  have hx := SS_lt k p _ hi1
  have hx7 := SS_no7 k p _ hi1
  unfold g_X10_passesStore
  refine ok_c (x_inb (by omega) (by omega)) (ok_l (ok_c (x_inb (by omega) (by omega)) (ok_l ?_)))
  rw [x_cl (by omega), r2, r3 hf0]
  refine ok_b (p10 hsh hR hw hw1 hB 26 (SS k p (DD k p - fnd (k p))) 1 iB l h (by omega) (by omega) hx7 (by omega)) (fun o ho => ?_)
  obtain ⟨o1, o2⟩ := ho
  rw [VG_old p hx] at ht
  by_cases hxn : vG (tyP kd lo hi k w) (SS k p (DD k p - fnd (k p))) = none
  · have hn' : vG (tyP kd lo hi k w) p = none := by
      rw [ht, hxn, e]
      rfl
    refine ok_t (o1 hxn) (ok_s ?_)
    rw [if_pos hn']
    rfl
  · obtain ⟨o3, o4, o5⟩ := o2 hxn
    obtain ⟨a, a1, a2, a3, a4⟩ := id o4
    rw [a1, e] at ht
    have ht' : vG (tyP kd lo hi k w) p = stT kd lo hi (w p) a := ht
    unfold stT at ht'
    refine ok_f (by rw [o3]; decide) (ok_f (nI_nlt (b := 0) (by omega) (by omega)) (ok_t (nI_lt (b := 6) hw' (by omega)) (ok_c (x_inb (by omega) (by omega)) ?_)))
    rw [x_cl (show SS k p (DD k p - fnd (k p)) < 2147483648 by omega), a3, x_cl (show w p < 2147483648 by omega)]
    unfold g_X10_passesStore_b62
    rw [x_cl (show SS k p (DD k p - fnd (k p)) < 2147483648 by omega), a3, x_cl (show w p < 2147483648 by omega)]
    by_cases z1 : a.1 = 0
    · refine ok_t z1 (ok_c (x_inb hw' (by omega)) ?_)
      by_cases z2 : kd (w p) = 0
      · obtain ⟨d1, d2, d3, d4, d5⟩ := a4 z1
        rw [if_pos (z1.trans z2.symm), if_pos z1] at ht'
        refine ok_t z2 (ok_c (x_inb hw' (by omega)) (ok_c (x_inb (by omega) (by omega)) ?_))
        rw [d1]
        have c1 : (0 < lg_cmp (lo (w p)).toInt64 a.2.1) = (a.2.1 < (lo (w p)).toInt64) := lg_gt
        by_cases g1 : a.2.1 < (lo (w p)).toInt64
        · refine ok_t (by rw [c1]; exact g1) (ok_s ?_)
          have hn' : vG (tyP kd lo hi k w) p = none := by
            rw [ht', if_neg (fun z => by
              have := HL_i.mp z.1
              rw [Int64.lt_iff_toInt_lt, Int32.toInt_toInt64] at g1
              omega)]
          rw [if_pos hn']
          rfl
        · refine ok_f (by rw [c1]; exact g1) (ok_c (x_inb (by omega) (by omega)) (ok_c (x_inb hw' (by omega)) ?_))
          rw [d2]
          have c2 : (0 < lg_cmp a.2.2 (hi (w p)).toInt64) = ((hi (w p)).toInt64 < a.2.2) := lg_gt
          by_cases g2 : (hi (w p)).toInt64 < a.2.2
          · refine ok_t (by rw [c2]; exact g2) (ok_s ?_)
            have hn' : vG (tyP kd lo hi k w) p = none := by
              rw [ht', if_neg (fun z => by
                have := HL_i.mp z.2
                rw [Int64.lt_iff_toInt_lt, Int32.toInt_toInt64] at g2
                omega)]
            rw [if_pos hn']
            rfl
          · refine ok_f (by rw [c2]; exact g2) (ok_s ?_)
            rw [Int64.lt_iff_toInt_lt, Int32.toInt_toInt64] at g1 g2
            rw [if_pos ⟨HL_i.mpr (by omega), HL_i.mpr (by omega)⟩] at ht'
            rw [ht', if_neg (fun z => by cases z)]
            rfl
      · rw [if_neg (fun z => z2 (z.symm.trans z1))] at ht'
        refine ok_f z2 (ok_c (x_inb (by omega) (by omega)) (ok_t z1 (ok_s ?_)))
        rw [if_pos ht']
        rfl
    · refine ok_f z1 (ok_c (x_inb (by omega) (by omega)) (ok_f z1 (ok_c (x_inb hw' (by omega)) ?_)))
      by_cases z2 : kd (w p) = 0
      · rw [if_neg (fun z => z1 (z.trans z2))] at ht'
        refine ok_t z2 (ok_s ?_)
        rw [if_pos ht']
        rfl
      · rw [if_pos (((x_bob a2).resolve_left z1).trans ((x_bob b1).resolve_left z2).symm), if_neg z1] at ht'
        refine ok_f z2 (ok_s ?_)
        rw [ht', if_neg (fun z => by cases z)]
        rfl
theorem l10 (hsh : SH T k) (hR : SPR T k w ks vs ps ls) (hw : ∀ p, p < T → (k p = 0 ∨ k p = 7) → w p < 6) (hw1 : ∀ p, p < T → k p = 1 → w p ≤ 99) (hB : BND kd lo hi) :
    ∀ (n p : Nat) (iB : Nat → Int32) (l h : Nat → Int64), p ≤ T → T - p < n → (∀ q, q < p → k q = 7 → vG (tyP kd lo hi k w) q ≠ none) → Ok (g_X10_passes_b2 (nI T) ks ps vs ls kd lo hi n h iB l (nI p)) (fun o => ((∀ q, q < T → k q = 7 → vG (tyP kd lo hi k w) q ≠ none) → o.1 = nI 1) ∧ (¬ (∀ q, q < T → k q = 7 → vG (tyP kd lo hi k w) q ≠ none) → o.1 = nI 0))
  | 0, p, _, _, _, _, h, _ => absurd h (Nat.not_lt_zero _)
  | n + 1, p, iB, l, h, hp, hn, hq => by
    unfold g_X10_passes_b2
    have hT := hsh.1
    by_cases c : p = T
    · subst c
      exact ok_t (nI_le (Nat.le_refl _) (by omega)) (ok_s ⟨fun _ => rfl, fun z => absurd hq z⟩)
    · have hp' : p < T := by omega
      have h7 := (hsh.2.2 p hp').1
      refine ok_f (nI_ge hp' (by omega)) (ok_c (x_inb (by omega) (by omega)) ?_)
      rw [x_cl (by omega), (hR p hp').1]
      have nx : ∀ (iB' : Nat → Int32) (l' h' : Nat → Int64), (k p = 7 → vG (tyP kd lo hi k w) p ≠ none) → Ok (g_X10_passes_b33 (nI T) ks ps vs ls kd lo hi (g_X10_passes_b2 (nI T) ks ps vs ls kd lo hi n) h' iB' l' (nI p)) (fun o => ((∀ q, q < T → k q = 7 → vG (tyP kd lo hi k w) q ≠ none) → o.1 = nI 1) ∧ (¬ (∀ q, q < T → k q = 7 → vG (tyP kd lo hi k w) q ≠ none) → o.1 = nI 0)) := by
        intro iB' l' h' hv
        unfold g_X10_passes_b33
        refine ok_l ?_
        rw [nI_1]
        exact l10 hsh hR hw hw1 hB n (p + 1) iB' l' h' (by omega) (by omega) (fun q hq' h7q => by
          by_cases c : q = p
          · rw [c] at h7q ⊢; exact hv h7q
          · exact hq q (by omega) h7q)
      by_cases e : k p = 7
      · refine ok_t (by rw [e]; rfl) (ok_b (s10 hsh hR hw hw1 hB hp' e iB l h) (fun o ho => ?_))
        by_cases hv : vG (tyP kd lo hi k w) p = none
        · rw [if_pos hv] at ho
          exact ok_t ho (ok_s ⟨fun z => absurd hv (z p hp' e), fun _ => rfl⟩)
        · rw [if_neg hv] at ho
          exact ok_f (by rw [ho]; decide) (nx _ _ _ (fun _ => hv))
      · exact ok_f (fun z => e (nI_inj (by omega) (by omega) (show nI (k p) = nI 7 from z))) (nx _ _ _ (fun z => absurd z e))
/-- the class's typing by stores tells what its typing tells -/
theorem k10 (hsh : SH T k) (hR : SPR T k w ks vs ps ls) (hw : ∀ p, p < T → (k p = 0 ∨ k p = 7) → w p < 6) (hw1 : ∀ p, p < T → k p = 1 → w p ≤ 99) (hB : BND kd lo hi) (iB : Nat → Int32) (l h : Nat → Int64) {f : Option Nat} (hf : FV (tyP kd lo hi k w) T f) :
    Ok (g_X10_passes (nI T) ks ps vs iB l h ls kd lo hi) (fun o => o.1 = if f = none then nI 1 else nI 0) := by
  unfold g_X10_passes
  have hT := hsh.1
  refine ok_m (l10 hsh hR hw hw1 hB 100 0 iB l h (Nat.zero_le _) (by omega) (fun q z => absurd z (Nat.not_lt_zero q))) (fun o ho => ?_)
  cases f with
  | none => exact ho.1 (fun q hq _ => hf q hq)
  | some q =>
    refine (ho.2 (fun z => ?_)).trans rfl
    obtain ⟨r, h1, h2, h3, h4⟩ := failing_store hsh tyP_strict (T - q) q (Nat.le_refl _) hf.1 hf.2.1
    exact z r h2 h3 h4
end S10C
