/-! THE CALLS that ask for a cauldron: cups, bits, what there is of it -/
section CAULD
variable {LS : List Nat} {SE : Nat → SV} {b : BK} {s nu sg : Nat → Int32} {f : Nat → UInt32} {n4 : Nat} {th tk sp ms p1 p2 : Int32} {ans : Nat → Int64} {ansD : Nat → UInt64}
theorem n64_f2d {x : UInt32} (h : FF x) : n64 (FP.f2d x) = true := by
  have h1 := SN_f2d h
  exact n64_of ((Jvm.FP.Core.notNaN_iff _).mpr (by obtain ⟨c, q, g, _⟩ := h1; rw [g]; exact fun z => by cases z))
theorem op_cups (hB : BR LS SE b s f) (hn : 0 < n4) (hn9 : n4 < 2147483648) : Ok (g_L_cups n4 ansD b.1 b.2.2.2.2.2.2.1 b.2.2.2.2.2.1 p1) (fun o => Ok (g_X12_cups th s f p1) (fun o' => o.1 = o'.2 ∧ (o.1 = 0 → n64 (FP.f2d o'.1) = true ∧ o.2 = vf_upd ansD 0 (FP.f2d o'.1)) ∧ (o.1 ≠ 0 → o.2 = ansD))) := by
  have hgc : inb 0 n4 = true := decide_eq_true ⟨by decide, by show (0 : Int) < n4; omega⟩
  obtain ⟨nc, ns, X, h6, -, e1, -, h0, -, -, -, hX, hS, -⟩ := hB
  unfold g_L_cups g_X11_cups g_X12_cups
  rw [e1]
  rcases idx p1 nc (by omega) with ⟨c, hc, rfl⟩ | ho
  · have hc6 : c < 6 := by omega
    obtain ⟨⟨a1, a2, a3, a4⟩, -⟩ := hX c hc6
    obtain ⟨s1, -, -, -, -, s6⟩ := hS c hc6
    have hbr : g_X12_isBroth s (nI c) = some (b.2.2.2.2.2.2.1 c) := by rw [← s1]; exact k_X12_isBroth hc6 (by rw [s1]; exact a1)
    have hin : inb (nI c) 6 = true := x_inb hc6 (by omega)
    by_cases hk : b.2.2.2.2.2.2.1 c = 0
    · refine ok_b (ok_be (k_needCauldron_in hc h6) (ok_t rfl (ok_c hin (ok_t (by rw [x_cl (by omega)]; exact hk) (ok_s (show _ = _ from rfl)))))) (fun r hr => ?_)
      subst hr
      refine ok_f (show ¬ (3 : Int32) = 0 by decide) (ok_f (show ¬ (3 : Int32) = 2 by decide) (ok_t rfl (ok_s ?_)))
      refine ok_be (k_X12_isCauldron_in h0 hc h6) (ok_f (by decide) (ok_be hbr (ok_t hk ?_)))
      unfold g_X12_cups_b26
      exact ok_f (by decide) (ok_s ⟨rfl, fun z => absurd z (show ¬ (2 : Int32) = 0 by decide), fun _ => rfl⟩)
    · refine ok_b (ok_be (k_needCauldron_in hc h6) (ok_t rfl (ok_c hin (ok_f (by rw [x_cl (by omega)]; exact hk) (ok_c hin (ok_l (ok_s (show _ = _ from rfl)))))))) (fun r hr => ?_)
      subst hr
      rw [x_cl (by omega)]
      refine ok_t rfl (ok_c (n64_f2d a4.1) (ok_c hgc (ok_s ?_)))
      refine ok_be (k_X12_isCauldron_in h0 hc h6) (ok_f (by decide) (ok_be hbr (ok_f hk ?_)))
      unfold g_X12_cups_b26
      refine ok_t (by decide) (ok_c hin (ok_l (ok_s ?_)))
      rw [x_cl (by omega), s6]
      exact ⟨rfl, fun _ => ⟨n64_f2d a4.1, rfl⟩, fun z => absurd rfl z⟩
  · refine ok_b (ok_be (k_needCauldron_out ho) (ok_f (by decide) (ok_s (show _ = _ from rfl)))) (fun r hr => ?_)
    subst hr
    refine ok_f (show ¬ (2 : Int32) = 0 by decide) (ok_t rfl (ok_s ?_))
    refine ok_be (k_X12_isCauldron_out h0 ho h6) (ok_t rfl ?_)
    unfold g_X12_cups_b26
    exact ok_f (by decide) (ok_s ⟨rfl, fun z => absurd z (show ¬ (1 : Int32) = 0 by decide), fun _ => rfl⟩)
theorem op_bits (hB : BR LS SE b s f) (hn : 0 < n4) (hn9 : n4 < 2147483648) : Ok (g_L_bits n4 ans b.1 b.2.2.2.2.2.2.1 b.2.2.2.2.1 b.2.2.2.2.2.1 p1) (fun o => Ok (g_X12_bits th s f p1) (fun o' => o.1 = o'.2 ∧ (o.1 = 0 → o.2 = vp_updL ans 0 o'.1.toInt64) ∧ (o.1 ≠ 0 → o.2 = ans))) := by
  have hgc : inb 0 n4 = true := decide_eq_true ⟨by decide, by show (0 : Int) < n4; omega⟩
  obtain ⟨nc, ns, X, h6, -, e1, -, h0, -, -, -, hX, hS, -⟩ := hB
  unfold g_L_bits g_X11_bits g_X12_bits
  rw [e1]
  rcases idx p1 nc (by omega) with ⟨c, hc, rfl⟩ | ho
  · have hc6 : c < 6 := by omega
    obtain ⟨⟨a1, a2, a3, a4⟩, -⟩ := hX c hc6
    obtain ⟨s1, -, -, s4, -, s6⟩ := hS c hc6
    have hbr : g_X12_isBroth s (nI c) = some (b.2.2.2.2.2.2.1 c) := by rw [← s1]; exact k_X12_isBroth hc6 (by rw [s1]; exact a1)
    have hin : inb (nI c) 6 = true := x_inb hc6 (by omega)
    have hof : g_X12_of s (nI c) 3 = some (b.2.2.2.2.1 c) := by rw [← s4]; exact k_X12_of (j := 3) hc6 (by omega)
    by_cases hk : b.2.2.2.2.2.2.1 c = 0
    · refine ok_b (ok_be (k_needCauldron_in hc h6) (ok_t rfl (ok_c hin (ok_t (by rw [x_cl (by omega)]; exact hk) (ok_c hin (ok_be (by rw [x_cl (by omega)]; exact k_bitsOf (ff_i2f _)) (ok_s (show _ = _ from rfl)))))))) (fun r hr => ?_)
      subst hr
      refine ok_t rfl (ok_c hgc (ok_s ?_))
      refine ok_be (k_X12_isCauldron_in h0 hc h6) (ok_f (by decide) ?_)
      unfold g_X12_bits_b14 g_X12_asFloat
      refine ok_t (by decide) (ok_be ((e_gb hbr).trans ((if_pos hk).trans (e_gb hof))) (ok_be (k_Jbits (ff_i2f _)) (ok_s ?_)))
      exact ⟨rfl, fun _ => rfl, fun z => absurd rfl z⟩
    · refine ok_b (ok_be (k_needCauldron_in hc h6) (ok_t rfl (ok_c hin (ok_f (by rw [x_cl (by omega)]; exact hk) (ok_c hin (ok_be (by rw [x_cl (by omega)]; exact k_bitsOf a4.1) (ok_s (show _ = _ from rfl)))))))) (fun r hr => ?_)
      subst hr
      refine ok_t rfl (ok_c hgc (ok_s ?_))
      refine ok_be (k_X12_isCauldron_in h0 hc h6) (ok_f (by decide) ?_)
      unfold g_X12_bits_b14 g_X12_asFloat
      refine ok_t (by decide) (ok_be ((e_gb hbr).trans ((if_neg hk).trans ((e_gc hin).trans e_gl))) (ok_be (by rw [x_cl (by omega), s6]; exact k_Jbits a4.1) (ok_s ?_)))
      exact ⟨rfl, fun _ => rfl, fun z => absurd rfl z⟩
  · refine ok_b (ok_be (k_needCauldron_out ho) (ok_f (by decide) (ok_s (show _ = _ from rfl)))) (fun r hr => ?_)
    subst hr
    refine ok_f (show ¬ (2 : Int32) = 0 by decide) (ok_t rfl (ok_s ?_))
    refine ok_be (k_X12_isCauldron_out h0 ho h6) (ok_t rfl ?_)
    unfold g_X12_bits_b14
    exact ok_f (by decide) (ok_s ⟨rfl, fun z => absurd z (show ¬ (1 : Int32) = 0 by decide), fun _ => rfl⟩)
theorem k_X12_content {mn kd : Nat → Int32} {mu : Nat → UInt32} {c : Nat} (hc : c < 6) (hb : bo (kd c) = true) (s1 : s (4 + 5 * c) = kd c) (s4 : s (4 + 5 * c + 3) = mn c) (s6 : f c = mu c) : g_X12_content s f (nI c) = some (if kd c = 0 then mn c else FP.f2i (mu c)) := by
  have hbr : g_X12_isBroth s (nI c) = some (kd c) := by rw [← s1]; exact k_X12_isBroth hc (by rw [s1]; exact hb)
  have hof : g_X12_of s (nI c) 3 = some (mn c) := by rw [← s4]; exact k_X12_of (j := 3) hc (by omega)
  unfold g_X12_content
  rw [hbr, e_gbS]
  by_cases hk : kd c = 0
  · rw [if_pos hk, if_pos hk, hof]; rfl
  · rw [if_neg hk, if_neg hk, e_gc (x_inb hc (by omega)), e_gl, x_cl (by omega), s6]
/-- numbers that choose -/
theorem k_in_n {n : Nat} (hn : n < 2147483648) : g_X12_in p2.toInt64 0 (nI n).toInt64 = some (if 0 ≤ p2.toInt ∧ p2.toInt ≤ n then 1 else 0) := by
  have e : (¬ p2.toInt64 < 0 ∧ ¬ (nI n).toInt64 < p2.toInt64) ↔ (0 ≤ p2.toInt ∧ p2.toInt ≤ n) := by
    rw [Int64.lt_iff_toInt_lt, Int64.lt_iff_toInt_lt, Int32.toInt_toInt64, Int32.toInt_toInt64, nI_toInt hn]
    have : (0 : Int64).toInt = 0 := rfl
    omega
  rw [k_X12_in]
  by_cases h : 0 ≤ p2.toInt ∧ p2.toInt ≤ n
  · rw [if_pos h, if_pos (e.mpr h)]
  · rw [if_neg h, if_neg (fun z => h (e.mp z))]
theorem k_in_6 (n : Nat) (h : p2 = nI n) (hn : n ≤ 6) : g_X12_in p2.toInt64 0 6 = some 1 := by
  subst h
  have := k_in_n (p2 := nI n) (n := 6) (by omega)
  rw [if_pos (by rw [nI_toInt (by omega)]; omega)] at this
  exact this
theorem toI_of {p : Int32} {n : Nat} (hn : n < 2147483648) (h : p.toInt = n) : p = nI n := Int32.toInt_inj.mp (by rw [h, nI_toInt hn])
end CAULD
