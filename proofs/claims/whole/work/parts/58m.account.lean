/-! THE CALLS account, append, undo, save, restore -/
section ACC
variable {LS : List Nat} {SE : Nat → SV} {b : BK} {s nu sg jB kB rf : Nat → Int32} {f : Nat → UInt32} {n4 : Nat} {th tk sp ms fa so sps so' p1 p2 p3 bd le pm : Int32} {iB sB : Nat → Int32} {l h sL sH l' h' sL' sH' : Nat → Int64} {ans : Nat → Int64}
theorem k_in_9 (n : Nat) (h : p1 = nI n) (hn : n ≤ 9) : g_X12_in p1.toInt64 0 9 = some 1 := by
  subst h
  have := k_in_n (p2 := nI n) (n := 9) (by omega)
  rw [if_pos (by rw [nI_toInt (by omega)]; omega)] at this
  exact this
theorem op_account (hB : BR LS SE b s f) (hn : 0 < n4) (hn9 : n4 < 2147483648) : Ok (g_L_account LS SE n4 le bd ans b.1 b.2.1 b.2.2.1 b.2.2.2.1 b.2.2.2.2.2.2.2.2.2.2.1 fa so sps b.2.2.2.2.2.2.1 b.2.2.2.2.2.2.2.1 b.2.2.2.2.2.2.2.2.1 iB l h sB sL sH b.2.2.2.2.1 pm p1) (fun o => Ok (g_X12_account pm bd th le tk sp ms so' s nu sg l' h' jB sL' sH' kB p1) (fun o' => AN ans o.1 o.2.1 o'.1 o'.2.1)) := by
  have hgc : inb 0 n4 = true := decide_eq_true ⟨by decide, by show (0 : Int) < n4; omega⟩
  obtain ⟨nc, ns, X, h6, h4, e1, e2, h0, h1, h2, h3, hX, hS, hT⟩ := hB
  have hbo := CX_bo hX
  have hXi : ∀ i, i < ns → OKT nc (X i) ∧ SPM s i (X i) := fun i hi => ⟨(hT.1 i hi).2.1, (hT.1 i hi).2.2.1⟩
  unfold g_L_account g_X11_account
  rw [e1, e2]
  have yes : ∀ {v : Int32} {p : Int32} {n : Nat} {m : Option (Int32 × Int32 × Int32 × Int32 × Int32 × (Nat → Int32) × (Nat → Int64) × (Nat → Int64) × (Nat → Int32) × (Nat → Int64) × (Nat → Int64))}, p = nI n → n ≤ 9 → Ok m (fun r => r.1 = 0 ∧ r.2.1 = v) → Ok (g_X12_account_b18 pm bd le tk sp ms so' s nu sg l' h' jB sL' sH' kB p 0) (fun o' => o'.1 = v ∧ o'.2.1 = 0) → Ok (gb m fun r1 => if r1.1 = 0 then gc (inb (0 : Int32) n4) <| some ((0 : Int32), (vp_updL ans (0 : Int32).toNatClampNeg r1.2.1.toInt64), r1.2.2.1, r1.2.2.2.1, r1.2.2.2.2.1, r1.2.2.2.2.2.1, r1.2.2.2.2.2.2.1, r1.2.2.2.2.2.2.2.1, r1.2.2.2.2.2.2.2.2.1, r1.2.2.2.2.2.2.2.2.2.1, r1.2.2.2.2.2.2.2.2.2.2) else if r1.1 = 1 then some (1, ans, r1.2.2.1, r1.2.2.2.1, r1.2.2.2.2.1, r1.2.2.2.2.2.1, r1.2.2.2.2.2.2.1, r1.2.2.2.2.2.2.2.1, r1.2.2.2.2.2.2.2.2.1, r1.2.2.2.2.2.2.2.2.2.1, r1.2.2.2.2.2.2.2.2.2.2) else none) (fun o => Ok (g_X12_account pm bd th le tk sp ms so' s nu sg l' h' jB sL' sH' kB p) (fun o' => AN ans o.1 o.2.1 o'.1 o'.2.1)) := by
    intro v p n m hp hn' hm hr
    refine ok_b hm (fun r hr1 => ?_)
    refine ok_t hr1.1 (ok_c hgc (ok_s ?_))
    unfold g_X12_account
    refine ok_be (k_in_9 n hp hn') (ok_f (by decide) (ok_m hr (fun o' ho => ?_)))
    rw [hr1.2]
    exact AN_y ho.1 ho.2
  by_cases p0 : p1 = 0
  · refine yes (v := nI nc) (n := 0) p0 (by omega) (ok_t p0 (ok_s ⟨rfl, rfl⟩)) ?_
    subst p0
    unfold g_X12_account_b18
    exact ok_t (by decide) (ok_f (by decide) (ok_f (by decide) (ok_f (by decide) (ok_f (by decide) (ok_f (by decide) (ok_f (by decide) (ok_f (by decide) (ok_f (by decide) (ok_c rfl (ok_l (ok_s ⟨h0, rfl⟩)))))))))))
  by_cases q1 : p1 = 1
  · refine yes (v := nI ns) (n := 1) q1 (by omega) (ok_f p0 (ok_t q1 (ok_s ⟨rfl, rfl⟩))) ?_
    subst q1
    unfold g_X12_account_b18
    exact ok_t (by decide) (ok_f (by decide) (ok_f (by decide) (ok_f (by decide) (ok_f (by decide) (ok_f (by decide) (ok_f (by decide) (ok_f (by decide) (ok_f (by decide) (ok_c rfl (ok_l (ok_s ⟨h1, rfl⟩)))))))))))
  by_cases q2 : p1 = 2
  · refine yes (v := nI (CT b.2.2.2.2.2.2.1 b.2.2.2.2.2.2.2.1 b.2.2.2.2.2.2.2.2.1 X ns)) (n := 2) q2 (by omega) (ok_f p0 (ok_f q1 (ok_t q2 (ok_b (k_countTyped h6 h4 hbo hT fa so sps iB sB l h sL sH) (fun r hr => ok_s ⟨rfl, hr⟩))))) ?_
    subst q2
    unfold g_X12_account_b18
    exact ok_t (by decide) (ok_t rfl (ok_b (k_typedMany h4 hbo h1 (CS_SB hS) hXi tk sp ms so' nu sg jB kB l' h' sL' sH') (fun u hu => ok_s ⟨hu, rfl⟩)))
  by_cases q3 : p1 = 3
  · refine yes (v := SBo b.2.2.2.2.2.2.1 nc) (n := 3) q3 (by omega) (ok_f p0 (ok_f q1 (ok_f q2 (ok_t q3 (ok_be (l_brothC h6 hbo 100 0 (Nat.zero_le _) (by omega)) (ok_s ⟨rfl, rfl⟩)))))) ?_
    subst q3
    unfold g_X12_account_b18
    refine ok_t (by decide) (ok_f (by decide) (ok_t rfl ?_))
    unfold g_X12_account_b81 g_X12_account_b93
    exact ok_f (by decide) (ok_be (l_allM (j := 0) (v := b.2.2.2.2.2.2.1) h6 h0 (Or.inl ⟨rfl, rfl⟩) (fun c hc => (hS c hc).1) 100 0 (Nat.zero_le _) (by omega)) (ok_s ⟨rfl, rfl⟩))
  by_cases q4 : p1 = 4
  · refine yes (v := b.2.2.1) (n := 4) q4 (by omega) (ok_f p0 (ok_f q1 (ok_f q2 (ok_f q3 (ok_t q4 (ok_s ⟨rfl, rfl⟩)))))) ?_
    subst q4
    unfold g_X12_account_b18
    exact ok_t (by decide) (ok_f (by decide) (ok_f (by decide) (ok_t rfl (ok_c rfl (ok_l (ok_s ⟨h2, rfl⟩))))))
  by_cases q5 : p1 = 5
  · refine yes (v := b.2.2.2.1) (n := 5) q5 (by omega) (ok_f p0 (ok_f q1 (ok_f q2 (ok_f q3 (ok_f q4 (ok_t q5 (ok_s ⟨rfl, rfl⟩))))))) ?_
    subst q5
    unfold g_X12_account_b18
    exact ok_t (by decide) (ok_f (by decide) (ok_f (by decide) (ok_f (by decide) (ok_t rfl (ok_c rfl (ok_l (ok_s ⟨h3, rfl⟩)))))))
  by_cases q6 : p1 = 6
  · refine yes (v := bd) (n := 6) q6 (by omega) (ok_f p0 (ok_f q1 (ok_f q2 (ok_f q3 (ok_f q4 (ok_f q5 (ok_t q6 (ok_s ⟨rfl, rfl⟩)))))))) ?_
    subst q6
    unfold g_X12_account_b18
    exact ok_t (by decide) (ok_f (by decide) (ok_f (by decide) (ok_f (by decide) (ok_f (by decide) (ok_t rfl (ok_s ⟨rfl, rfl⟩))))))
  by_cases q7 : p1 = 7
  · refine yes (v := SBo b.2.2.2.2.1 nc) (n := 7) q7 (by omega) (ok_f p0 (ok_f q1 (ok_f q2 (ok_f q3 (ok_f q4 (ok_f q5 (ok_f q6 (ok_t q7 (ok_be (l_dramsC h6 hX 100 0 (Nat.zero_le _) (by omega)) (ok_s ⟨rfl, rfl⟩)))))))))) ?_
    subst q7
    unfold g_X12_account_b18
    refine ok_t (by decide) (ok_f (by decide) (ok_f (by decide) (ok_f (by decide) (ok_f (by decide) (ok_f (by decide) (ok_t rfl ?_))))))
    unfold g_X12_account_b81 g_X12_account_b93
    exact ok_t rfl (ok_be (l_allM (j := 3) (v := b.2.2.2.2.1) h6 h0 (Or.inr ⟨rfl, rfl⟩) (fun c hc => (hS c hc).2.2.2.1) 100 0 (Nat.zero_le _) (by omega)) (ok_s ⟨rfl, rfl⟩))
  by_cases q8 : p1 = 8
  · refine yes (v := le) (n := 8) q8 (by omega) (ok_f p0 (ok_f q1 (ok_f q2 (ok_f q3 (ok_f q4 (ok_f q5 (ok_f q6 (ok_f q7 (ok_t q8 (ok_s ⟨rfl, rfl⟩)))))))))) ?_
    subst q8
    unfold g_X12_account_b18
    exact ok_t (by decide) (ok_f (by decide) (ok_f (by decide) (ok_f (by decide) (ok_f (by decide) (ok_f (by decide) (ok_f (by decide) (ok_t rfl (ok_s ⟨rfl, rfl⟩))))))))
  by_cases q9 : p1 = 9
  · refine yes (v := pm) (n := 9) q9 (by omega) (ok_f p0 (ok_f q1 (ok_f q2 (ok_f q3 (ok_f q4 (ok_f q5 (ok_f q6 (ok_f q7 (ok_f q8 (ok_t q9 (ok_s ⟨rfl, rfl⟩))))))))))) ?_
    subst q9
    unfold g_X12_account_b18
    exact ok_t (by decide) (ok_f (by decide) (ok_f (by decide) (ok_f (by decide) (ok_f (by decide) (ok_f (by decide) (ok_f (by decide) (ok_f (by decide) (ok_t rfl (ok_s ⟨rfl, rfl⟩)))))))))
  · refine ok_b (R := fun r => r.1 = 1) (ok_f p0 (ok_f q1 (ok_f q2 (ok_f q3 (ok_f q4 (ok_f q5 (ok_f q6 (ok_f q7 (ok_f q8 (ok_f q9 (ok_s rfl))))))))))) (fun r hr => ok_f (by rw [hr]; decide) (ok_t hr (ok_s ?_)))
    have hi : g_X12_in p1.toInt64 0 9 = some 0 := by
      refine (k_in_n (n := 9) (by omega)).trans (congrArg some (if_neg (fun z => ?_)))
      have ht : p1 = nI p1.toInt.toNat := toI_of (by omega) (by omega)
      have : p1.toInt.toNat = 0 ∨ p1.toInt.toNat = 1 ∨ p1.toInt.toNat = 2 ∨ p1.toInt.toNat = 3 ∨ p1.toInt.toNat = 4 ∨ p1.toInt.toNat = 5 ∨ p1.toInt.toNat = 6 ∨ p1.toInt.toNat = 7 ∨ p1.toInt.toNat = 8 ∨ p1.toInt.toNat = 9 := by omega
      rcases this with e | e | e | e | e | e | e | e | e | e <;> rw [e] at ht
      · exact p0 ht
      · exact q1 ht
      · exact q2 ht
      · exact q3 ht
      · exact q4 ht
      · exact q5 ht
      · exact q6 ht
      · exact q7 ht
      · exact q8 ht
      · exact q9 ht
    unfold g_X12_account
    refine ok_be hi (ok_t rfl ?_)
    unfold g_X12_account_b18
    exact ok_f (by decide) (ok_s (AN_n rfl rfl))
end ACC
