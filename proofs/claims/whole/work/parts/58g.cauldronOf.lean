/-! THE CALL cauldronOf -/
section CAULDOF
variable {LS : List Nat} {SE : Nat → SV} {b : BK} {s nu sg : Nat → Int32} {f : Nat → UInt32} {n4 : Nat} {th tk sp ms p1 p2 : Int32} {ans : Nat → Int64}
/-- what is answered: the class's code and answer, the reference's answer and what it throws -/
abbrev AN (ans : Nat → Int64) (c : Int32) (out : Nat → Int64) (v t : Int32) : Prop := c = t ∧ (c = 0 → out = vp_updL ans 0 v.toInt64) ∧ (c ≠ 0 → out = ans)
theorem AN_y {v v' t : Int32} (hv : v' = v) (ht : t = 0) : AN ans 0 (vp_updL ans 0 v.toInt64) v' t := by
  subst hv ht
  exact ⟨rfl, fun _ => rfl, fun z => absurd rfl z⟩
theorem AN_n {c v t : Int32} (hc : decide (c = 0) = false) (ht : t = c) : AN ans c ans v t := by
  subst ht
  exact ⟨rfl, fun z => absurd z (of_decide_eq_false hc), fun _ => rfl⟩
theorem op_cauldronOf (hB : BR LS SE b s f) (hn : 0 < n4) (hn9 : n4 < 2147483648) : Ok (g_L_cauldronOf LS SE n4 ans b.1 b.2.1 b.2.2.2.2.2.2.1 b.2.2.2.2.2.2.2.1 b.2.2.2.2.2.2.2.2.1 b.2.2.2.2.1 b.2.2.2.2.2.1 b.2.2.2.2.2.2.2.2.2.1 b.2.2.2.2.2.2.2.2.2.2.1 p1 p2) (fun o => Ok (g_X12_cauldronOf th tk sp ms s f nu sg p1 p2) (fun o' => AN ans o.1 o.2 o'.1 o'.2.1)) := by
  have hgc : inb 0 n4 = true := decide_eq_true ⟨by decide, by show (0 : Int) < n4; omega⟩
  obtain ⟨nc, ns, X, h6, h4, e1, e2, h0, h1, -, -, hX, hS, hT⟩ := hB
  have hXi : ∀ i, i < ns → OKT nc (X i) ∧ SPM s i (X i) := fun i hi => ⟨(hT.1 i hi).2.1, (hT.1 i hi).2.2.1⟩
  unfold g_L_cauldronOf g_X11_cauldronOf g_X12_cauldronOf
  rw [e1, e2]
  rcases idx p1 nc (by omega) with ⟨c, hc, rfl⟩ | ho
  · have hc6 : c < 6 := by omega
    obtain ⟨⟨a1, a2, a3, a4⟩, -⟩ := hX c hc6
    obtain ⟨s1, s2, s3, s4, s5, s6⟩ := hS c hc6
    have hin : inb (nI c) 6 = true := x_inb hc6 (by omega)
    have hcl : (nI c).toNatClampNeg = c := x_cl (by omega)
    have hof : ∀ j, j < 5 → g_X12_of s (nI c) (nI j) = some (s (4 + 5 * c + j)) := fun j hj => k_X12_of hc6 hj
    have yes : ∀ {m : Option (Int32 × Int32)} {v : Int32} {p : Int32} {n : Nat}, p = nI n → n ≤ 6 → m = some (0, v) → Ok (g_X12_cauldronOf_b30 tk sp ms s f nu sg (nI c) p 0) (fun o' => o'.1 = v ∧ o'.2.1 = 0) → Ok (gb (gb (g_X11_needCauldron (nI nc) (nI c)) fun r1 => if r1 = 0 then m else some (r1, 0)) fun r1 => if r1.1 = 0 then gc (inb (0 : Int32) n4) <| some ((0 : Int32), vp_updL ans (0 : Int32).toNatClampNeg r1.2.toInt64) else if r1.1 = 1 then some (2, ans) else if r1.1 = 2 then some (1, ans) else none) (fun o => Ok (gb (g_X12_isCauldron s (nI c)) fun r1 => if r1 = 0 then g_X12_cauldronOf_b30 tk sp ms s f nu sg (nI c) p 1 else gb (g_X12_in p.toInt64 (0 : Int64) (6 : Int64)) fun r2 => if r2 = 0 then g_X12_cauldronOf_b30 tk sp ms s f nu sg (nI c) p 2 else g_X12_cauldronOf_b30 tk sp ms s f nu sg (nI c) p 0) (fun o' => AN ans o.1 o.2 o'.1 o'.2.1)) := by
      intro m v p n hp hn' hm hr
      refine ok_be ((e_gb (k_needCauldron_in hc h6)).trans ((if_pos rfl).trans hm)) (ok_t rfl (ok_c hgc (ok_s ?_)))
      refine ok_be (k_X12_isCauldron_in h0 hc h6) (ok_f (by decide) (ok_be (k_in_6 n hp hn') (ok_f (by decide) (ok_m hr (fun o' ho => AN_y ho.1 ho.2)))))
    by_cases p0 : p2 = 0
    · refine yes (v := b.2.2.2.2.2.2.1 c) (n := 0) p0 (by omega) ?_ ?_
      · rw [if_pos p0, e_gc hin, hcl]
        rcases x_bob a1 with z | z
        · rw [if_pos z, show b.2.2.2.2.2.2.1 c = 0 from z]
        · rw [if_neg (fun y => by have : (0 : Int32) = 1 := y.symm.trans z; exact absurd this (by decide)), show b.2.2.2.2.2.2.1 c = 1 from z]
      · subst p0
        unfold g_X12_cauldronOf_b30 g_X12_cauldronOf_b95
        exact ok_t (by decide) (ok_f (by decide) (ok_f (by decide) (ok_f (by decide) (ok_f (by decide) (ok_be (hof 0 (by omega)) (ok_s ⟨s1, rfl⟩))))))
    by_cases q1 : p2 = 1
    · refine yes (v := b.2.2.2.2.2.2.2.1 c) (n := 1) q1 (by omega) ?_ ?_
      · rw [if_neg p0, if_pos q1, e_gc hin, hcl]
      · subst q1
        unfold g_X12_cauldronOf_b30 g_X12_cauldronOf_b95
        exact ok_t (by decide) (ok_f (by decide) (ok_f (by decide) (ok_f (by decide) (ok_f (by decide) (ok_be (hof 1 (by omega)) (ok_s ⟨s2, rfl⟩))))))
    by_cases q2 : p2 = 2
    · refine yes (v := b.2.2.2.2.2.2.2.2.1 c) (n := 2) q2 (by omega) ?_ ?_
      · rw [if_neg p0, if_neg q1, if_pos q2, e_gc hin, hcl]
      · subst q2
        unfold g_X12_cauldronOf_b30 g_X12_cauldronOf_b95
        exact ok_t (by decide) (ok_f (by decide) (ok_f (by decide) (ok_f (by decide) (ok_f (by decide) (ok_be (hof 2 (by omega)) (ok_s ⟨s3, rfl⟩))))))
    by_cases q3 : p2 = 3
    · refine yes (v := if b.2.2.2.2.2.2.1 c = 0 then b.2.2.2.2.1 c else FP.f2i (b.2.2.2.2.2.1 c)) (n := 3) q3 (by omega) ?_ ?_
      · rw [if_neg p0, if_neg q1, if_neg q2, if_pos q3, k_X0_cutContent hc6]; rfl
      · subst q3
        unfold g_X12_cauldronOf_b30
        exact ok_t (by decide) (ok_t rfl (ok_be (k_X12_content (mn := b.2.2.2.2.1) (kd := b.2.2.2.2.2.2.1) (mu := b.2.2.2.2.2.1) hc6 a1 s1 s4 s6) (ok_s ⟨rfl, rfl⟩)))
    by_cases q4 : p2 = 4
    · refine yes (v := b.2.2.2.2.2.2.2.2.2.1 c) (n := 4) q4 (by omega) ?_ ?_
      · rw [if_neg p0, if_neg q1, if_neg q2, if_neg q3, if_pos q4, e_gc hin, hcl]
      · subst q4
        unfold g_X12_cauldronOf_b30 g_X12_cauldronOf_b95
        exact ok_t (by decide) (ok_f (by decide) (ok_t rfl (ok_be (hof 4 (by omega)) (ok_s ⟨s5, rfl⟩))))
    by_cases q5 : p2 = 5
    · refine yes (v := nI (CH 0 c X ns)) (n := 5) q5 (by omega) ?_ ?_
      · rw [if_neg p0, if_neg q1, if_neg q2, if_neg q3, if_neg q4, if_pos q5, show (0 : Int32) = nI 0 from rfl, k_spellsThat h6 h4 (Or.inl rfl) hc6 hT]; rfl
      · subst q5
        unfold g_X12_cauldronOf_b30 g_X12_cauldronOf_b78 g_X12_cauldronOf_b91
        exact ok_t (by decide) (ok_f (by decide) (ok_f (by decide) (ok_t rfl (ok_f (by decide) (ok_b (k_spellsWith (j := 0) h6 h4 (Or.inl rfl) hc6 h1 hXi tk sp ms nu sg) (fun r hr => ok_s ⟨hr, rfl⟩))))))
    by_cases q6 : p2 = 6
    · refine yes (v := nI (CH 7 c X ns)) (n := 6) q6 (by omega) ?_ ?_
      · rw [if_neg p0, if_neg q1, if_neg q2, if_neg q3, if_neg q4, if_neg q5, if_pos q6, show (7 : Int32) = nI 7 from rfl, k_spellsThat h6 h4 (Or.inr rfl) hc6 hT]; rfl
      · subst q6
        unfold g_X12_cauldronOf_b30 g_X12_cauldronOf_b78 g_X12_cauldronOf_b91
        exact ok_t (by decide) (ok_f (by decide) (ok_f (by decide) (ok_f (by decide) (ok_t rfl (ok_t rfl (ok_b (k_spellsWith (j := 7) h6 h4 (Or.inr rfl) hc6 h1 hXi tk sp ms nu sg) (fun r hr => ok_s ⟨hr, rfl⟩)))))))
    · refine ok_be ((e_gb (k_needCauldron_in hc h6)).trans ((if_pos rfl).trans ((if_neg p0).trans ((if_neg q1).trans ((if_neg q2).trans ((if_neg q3).trans ((if_neg q4).trans ((if_neg q5).trans (if_neg q6))))))))) (ok_f (show ¬ (1 : Int32) = 0 by decide) (ok_t rfl (ok_s ?_)))
      have hi : g_X12_in p2.toInt64 0 6 = some 0 := by
        refine (k_in_n (n := 6) (by omega)).trans (congrArg some (if_neg (fun z => ?_)))
        have ht : p2 = nI p2.toInt.toNat := toI_of (by omega) (by omega)
        have : p2.toInt.toNat = 0 ∨ p2.toInt.toNat = 1 ∨ p2.toInt.toNat = 2 ∨ p2.toInt.toNat = 3 ∨ p2.toInt.toNat = 4 ∨ p2.toInt.toNat = 5 ∨ p2.toInt.toNat = 6 := by omega
        rcases this with e | e | e | e | e | e | e <;> rw [e] at ht
        · exact p0 ht
        · exact q1 ht
        · exact q2 ht
        · exact q3 ht
        · exact q4 ht
        · exact q5 ht
        · exact q6 ht
      refine ok_be (k_X12_isCauldron_in h0 hc h6) (ok_f (by decide) (ok_be hi (ok_t rfl ?_)))
      unfold g_X12_cauldronOf_b30
      exact ok_f (by decide) (ok_s (AN_n rfl rfl))
  · refine ok_be ((e_gb (k_needCauldron_out ho)).trans (if_neg (by decide))) (ok_f (show ¬ (2 : Int32) = 0 by decide) (ok_f (show ¬ (2 : Int32) = 1 by decide) (ok_t rfl (ok_s ?_))))
    refine ok_be (k_X12_isCauldron_out h0 ho h6) (ok_t rfl ?_)
    unfold g_X12_cauldronOf_b30
    exact ok_f (by decide) (ok_s (AN_n rfl rfl))
end CAULDOF
