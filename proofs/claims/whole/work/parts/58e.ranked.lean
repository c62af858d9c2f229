/-! THE CALL ranked -/
section RANKED
variable {LS : List Nat} {SE : Nat → SV} {b : BK} {s nu sg : Nat → Int32} {f : Nat → UInt32} {n4 : Nat} {th tk sp ms p1 : Int32} {ans : Nat → Int64}
theorem op_ranked (hB : BR LS SE b s f) (hn : 0 < n4) (hn9 : n4 < 2147483648) : Ok (g_L_ranked LS SE n4 ans b.2.1 b.2.2.2.2.2.2.2.2.2.2.1 p1) (fun o => Ok (g_X12_ranked th tk sp ms s nu sg p1) (fun o' => o.1 = o'.2.1 ∧ (o.1 = 0 → o.2 = vp_updL ans 0 o'.1.toInt64) ∧ (o.1 ≠ 0 → o.2 = ans))) := by
  have hgc : inb 0 n4 = true := decide_eq_true ⟨by decide, by show (0 : Int) < n4; omega⟩
  obtain ⟨nc, ns, X, -, hn4, -, e1, -, h1, -, -, -, -, hX⟩ := hB
  have hXi : ∀ i, i < ns → OKT nc (X i) ∧ SPM s i (X i) := fun i hi => ⟨(hX.1 i hi).2.1, (hX.1 i hi).2.2.1⟩
  unfold g_L_ranked g_X11_ranked
  rw [e1]
  rcases idx p1 ns (by omega) with ⟨p, hp, rfl⟩ | ho
  · obtain ⟨q, hq, r1, r2⟩ := ue_AH X hn4 p hp
    refine ok_be (l_rankedC hn4 hX hp hq r1 r2 100 0 (Nat.zero_le _) (by omega)) (ok_t rfl (ok_c hgc (ok_s (ok_m (k_X12_ranked hn4 h1 hXi hp hq r1 r2 th tk sp ms nu sg) (fun o' ho => ?_)))))
    rw [ho.1, ho.2]
    exact ⟨rfl, fun _ => rfl, fun z => absurd rfl z⟩
  · refine ok_be (l_rankedN hn4 hX ho 100 0 (Nat.zero_le _) (by omega)) (ok_f (show ¬ (3 : Int32) = 0 by decide) (ok_t rfl (ok_s (ok_m (k_X12_rankedN hn4 h1 hXi ho th tk sp ms nu sg) (fun o' ho => ?_)))))
    rw [ho.2]
    exact ⟨rfl, fun z => absurd z (show ¬ (1 : Int32) = 0 by decide), fun _ => rfl⟩
end RANKED
