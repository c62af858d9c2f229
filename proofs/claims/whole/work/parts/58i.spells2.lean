/-! THE CALLS that ask for a spell: bound, token, what there is of it, how many type -/
section SPELLQ2
variable {LS : List Nat} {SE : Nat → SV} {b : BK} {s nu sg jB kB : Nat → Int32} {f : Nat → UInt32} {n4 : Nat} {th tk sp ms fa so sps so' p1 p2 p3 : Int32} {iB sB : Nat → Int32} {l h sL sH l' h' sL' sH' : Nat → Int64} {ans : Nat → Int64} {ansD : Nat → UInt64}
theorem NS_at {k : Nat → Nat} {m : Nat} : ∀ T, m < NS k T → ∃ q, q < T ∧ k q = 7 ∧ NS k q = m
  | 0, h => absurd h (Nat.not_lt_zero m)
  | T + 1, h => by
    rw [NS_s] at h
    by_cases g : m < NS k T
    · obtain ⟨q, h1, h2, h3⟩ := NS_at T g
      exact ⟨q, by omega, h2, h3⟩
    · by_cases e : k T = 7
      · rw [if_pos e] at h
        exact ⟨T, by omega, e, by omega⟩
      · rw [if_neg e] at h
        omega
theorem op_bound (hB : BR LS SE b s f) (hn : 0 < n4) (hn9 : n4 < 2147483648) : Ok (g_L_bound LS SE n4 ans b.2.1 b.2.2.2.2.2.2.2.2.2.2.1 fa so sps b.2.2.2.2.2.2.1 b.2.2.2.2.2.2.2.1 b.2.2.2.2.2.2.2.2.1 iB l h sB sL sH p1 p2 p3) (fun o => Ok (g_X12_bound th tk sp ms so' s nu sg l' h' jB sL' sH' kB p1 p2 p3) (fun o' => AN ans o.1 o.2.1 o'.1 o'.2.1)) := by
  have hgc : inb 0 n4 = true := decide_eq_true ⟨by decide, by show (0 : Int) < n4; omega⟩
  obtain ⟨nc, ns, X, h6, h4, e1, e2, h0, h1, -, -, hX, hS, hT⟩ := hB
  have hbo := CX_bo hX
  unfold g_L_bound g_X11_bound g_X12_bound
  rw [e2]
  rcases idx p1 ns (by omega) with ⟨i, hi, rfl⟩ | ho
  · obtain ⟨⟨a, a1, a2⟩, a3, a4, a5⟩ := hT.1 i hi
    have hsh := OKT_SH a3
    have hTT := hsh.1
    have hnl := NS_le (rT (X i)).2.1 (rT (X i)).1
    obtain ⟨z, z1⟩ := FV_has (tyP b.2.2.2.2.2.2.1 b.2.2.2.2.2.2.2.1 b.2.2.2.2.2.2.2.2.1 (rT (X i)).2.1 (rT (X i)).2.2.1) (rT (X i)).1
    have spell := k_needSpell_in hi h4 a1 a2
    have isS := k_X12_isSpell_in h1 hi h4
    have passes := k9x (lo := b.2.2.2.2.2.2.2.1) (hi := b.2.2.2.2.2.2.2.2.1) a2 a3 h6 hbo fa so sps iB sB l h sL sH
    have faults := k_X12_faultOf (by omega) a3 a4 hbo (CS_SB hS) tk sp ms so' nu sg jB kB l' h' sL' sH'
    have no : ∀ {m : Option (Int32 × Int32 × Int32 × Int32 × Int32 × (Nat → Int32) × (Nat → Int64) × (Nat → Int64) × (Nat → Int32) × (Nat → Int64) × (Nat → Int64))}, Ok m (fun r => r.1 = 3) → Ok (g_X12_bound th tk sp ms so' s nu sg l' h' jB sL' sH' kB (nI i) p2 p3) (fun o' => o'.2.1 = 2) → Ok (gb m fun r1 => if r1.1 = 0 then gc (inb (0 : Int32) n4) <| some ((0 : Int32), (vp_updL ans (0 : Int32).toNatClampNeg r1.2.1.toInt64), r1.2.2.1, r1.2.2.2.1, r1.2.2.2.2.1, r1.2.2.2.2.2.1, r1.2.2.2.2.2.2.1, r1.2.2.2.2.2.2.2.1, r1.2.2.2.2.2.2.2.2.1, r1.2.2.2.2.2.2.2.2.2.1, r1.2.2.2.2.2.2.2.2.2.2) else if r1.1 = 2 then some (1, ans, r1.2.2.1, r1.2.2.2.1, r1.2.2.2.2.1, r1.2.2.2.2.2.1, r1.2.2.2.2.2.2.1, r1.2.2.2.2.2.2.2.1, r1.2.2.2.2.2.2.2.2.1, r1.2.2.2.2.2.2.2.2.2.1, r1.2.2.2.2.2.2.2.2.2.2) else if r1.1 = 3 then some (2, ans, r1.2.2.1, r1.2.2.2.1, r1.2.2.2.2.1, r1.2.2.2.2.2.1, r1.2.2.2.2.2.2.1, r1.2.2.2.2.2.2.2.1, r1.2.2.2.2.2.2.2.2.1, r1.2.2.2.2.2.2.2.2.2.1, r1.2.2.2.2.2.2.2.2.2.2) else none) (fun o => Ok (g_X12_bound th tk sp ms so' s nu sg l' h' jB sL' sH' kB (nI i) p2 p3) (fun o' => AN ans o.1 o.2.1 o'.1 o'.2.1)) := by
      intro m hm hr
      refine ok_b hm (fun r hr1 => ?_)
      exact ok_f (by rw [hr1]; decide) (ok_f (by rw [hr1]; decide) (ok_t hr1 (ok_s (ok_m hr (fun o' ho => AN_n rfl ho)))))
    have yes : ∀ {v : Int32} {m : Option (Int32 × Int32 × Int32 × Int32 × Int32 × (Nat → Int32) × (Nat → Int64) × (Nat → Int64) × (Nat → Int32) × (Nat → Int64) × (Nat → Int64))}, Ok m (fun r => r.1 = 0 ∧ r.2.1 = v) → Ok (g_X12_bound th tk sp ms so' s nu sg l' h' jB sL' sH' kB (nI i) p2 p3) (fun o' => o'.1 = v ∧ o'.2.1 = 0) → Ok (gb m fun r1 => if r1.1 = 0 then gc (inb (0 : Int32) n4) <| some ((0 : Int32), (vp_updL ans (0 : Int32).toNatClampNeg r1.2.1.toInt64), r1.2.2.1, r1.2.2.2.1, r1.2.2.2.2.1, r1.2.2.2.2.2.1, r1.2.2.2.2.2.2.1, r1.2.2.2.2.2.2.2.1, r1.2.2.2.2.2.2.2.2.1, r1.2.2.2.2.2.2.2.2.2.1, r1.2.2.2.2.2.2.2.2.2.2) else if r1.1 = 2 then some (1, ans, r1.2.2.1, r1.2.2.2.1, r1.2.2.2.2.1, r1.2.2.2.2.2.1, r1.2.2.2.2.2.2.1, r1.2.2.2.2.2.2.2.1, r1.2.2.2.2.2.2.2.2.1, r1.2.2.2.2.2.2.2.2.2.1, r1.2.2.2.2.2.2.2.2.2.2) else if r1.1 = 3 then some (2, ans, r1.2.2.1, r1.2.2.2.1, r1.2.2.2.2.1, r1.2.2.2.2.2.1, r1.2.2.2.2.2.2.1, r1.2.2.2.2.2.2.2.1, r1.2.2.2.2.2.2.2.2.1, r1.2.2.2.2.2.2.2.2.2.1, r1.2.2.2.2.2.2.2.2.2.2) else none) (fun o => Ok (g_X12_bound th tk sp ms so' s nu sg l' h' jB sL' sH' kB (nI i) p2 p3) (fun o' => AN ans o.1 o.2.1 o'.1 o'.2.1)) := by
      intro v m hm hr
      refine ok_b hm (fun r hr1 => ?_)
      refine ok_t hr1.1 (ok_c hgc (ok_s (ok_m hr (fun o' ho => ?_))))
      rw [hr1.2]
      exact AN_y ho.1 ho.2
    cases hz : z with
    | some q =>
      rw [hz] at z1
      refine no (ok_be spell (ok_t rfl (ok_gs (ok_c a2.1 (ok_b passes (fun r hr => ?_)))))) ?_
      · obtain ⟨y, y1, y2, -⟩ := hr
        have e := FV_one y1 z1
        rw [e, if_neg (by simp)] at y2
        exact ok_t y2 (ok_s rfl)
      · unfold g_X12_bound
        refine ok_be isS (ok_f (by decide) (ok_b faults (fun u hu => ?_)))
        obtain ⟨y, y1, y2, -⟩ := hu
        have e := FV_one y1 z1
        rw [e] at y2
        rw [y2]
        refine ok_t (fcode_0 (FV_lt z1) hTT) ?_
        unfold g_X12_bound_b51 g_X12_bound_b52 g_X12_bound_b65
        exact ok_t rfl (ok_f (by decide) (ok_s rfl))
    | none =>
      rw [hz] at z1
      rcases idx p2 (NS (rT (X i)).2.1 (rT (X i)).1) (by omega) with ⟨m, hm, rfl⟩ | ho2
      · obtain ⟨q, q1, q2, q3⟩ := NS_at _ hm
        have hin : inb (nI m) 24 = true := x_inb (by omega) (by omega)
        have hcl : (nI m).toNatClampNeg = m := x_cl (by omega)
        have hnn : ¬ nI m < 0 := nI_nlt (b := 0) (Nat.zero_le _) (by omega)
        have hnl2 : nI m < nI (NS (rT (X i)).2.1 (rT (X i)).1) := nI_lt hm (by omega)
        obtain ⟨v, hv⟩ : ∃ v, vG (tyP b.2.2.2.2.2.2.1 b.2.2.2.2.2.2.2.1 b.2.2.2.2.2.2.2.2.1 (rT (X i)).2.1 (rT (X i)).2.2.1) q = some v := by
          cases hv : vG (tyP b.2.2.2.2.2.2.1 b.2.2.2.2.2.2.2.1 b.2.2.2.2.2.2.2.2.1 (rT (X i)).2.1 (rT (X i)).2.2.1) q with
          | none => exact absurd hv (z1 q q1)
          | some v => exact ⟨v, rfl⟩
        have refIn : ∀ r : Int32, r = nI (NS (rT (X i)).2.1 (rT (X i)).1) → g_X12_in (nI m).toInt64 0 (r - 1).toInt64 = some 1 := by
          intro r hr
          rw [hr, k_in_idx (by omega), if_pos (by rw [nI_toInt (by omega)]; omega)]
        by_cases hk : v.1 = 0
        · refine yes (v := if p3 = 0 then v.2.1.toInt32 else v.2.2.toInt32) (ok_be spell (ok_t rfl (ok_gs (ok_c a2.1 (ok_b passes (fun r hr => ?_)))))) ?_
          · obtain ⟨y, y1, y2, -, y4⟩ := hr
            have e := FV_one y1 z1
            rw [e, if_pos rfl] at y2
            obtain ⟨y5, y6⟩ := y4 e
            obtain ⟨w1, w2⟩ := y6 q q1 q2 v hv
            rw [q3] at w1 w2
            obtain ⟨w3, w4⟩ := w2 hk
            refine ok_f (by rw [y2]; decide) (ok_f hnn (ok_t (by rw [y5]; exact hnl2) (ok_c hin (ok_t (by rw [hcl, w1]; exact hk) ?_))))
            by_cases hp : p3 = 0
            · rw [if_pos hp, if_pos hp]
              exact ok_c hin (ok_l (ok_s ⟨rfl, by rw [hcl, w3]⟩))
            · rw [if_neg hp, if_neg hp]
              exact ok_c hin (ok_l (ok_s ⟨rfl, by rw [hcl, w4]⟩))
          · unfold g_X12_bound
            refine ok_be isS (ok_f (by decide) (ok_b faults (fun u hu => ?_)))
            obtain ⟨y, y1, y2, y4⟩ := hu
            have e := FV_one y1 z1
            rw [e] at y2
            obtain ⟨y5, y6⟩ := y4 e
            obtain ⟨w1, w2⟩ := y6 q q1 q2 v hv
            rw [q3] at w1 w2
            obtain ⟨w3, w4⟩ := w2 hk
            refine ok_f (by rw [y2]; decide) (ok_be (refIn _ y5) (ok_f (by decide) (ok_c hin (ok_t (by rw [hcl, w1]; exact hk) ?_))))
            unfold g_X12_bound_b52 g_X12_bound_b65
            refine ok_f (by decide) (ok_t (by decide) ?_)
            by_cases hp : p3 = 0
            · rw [if_pos hp, if_pos hp]
              exact ok_c hin (ok_l (ok_s ⟨by rw [hcl, w3], rfl⟩))
            · rw [if_neg hp, if_neg hp]
              exact ok_c hin (ok_l (ok_s ⟨by rw [hcl, w4], rfl⟩))
        · refine no (ok_be spell (ok_t rfl (ok_gs (ok_c a2.1 (ok_b passes (fun r hr => ?_)))))) ?_
          · obtain ⟨y, y1, y2, -, y4⟩ := hr
            have e := FV_one y1 z1
            rw [e, if_pos rfl] at y2
            obtain ⟨y5, y6⟩ := y4 e
            obtain ⟨w1, w2⟩ := y6 q q1 q2 v hv
            rw [q3] at w1 w2
            exact ok_f (by rw [y2]; decide) (ok_f hnn (ok_t (by rw [y5]; exact hnl2) (ok_c hin (ok_f (by rw [hcl, w1]; exact hk) (ok_s rfl)))))
          · unfold g_X12_bound
            refine ok_be isS (ok_f (by decide) (ok_b faults (fun u hu => ?_)))
            obtain ⟨y, y1, y2, y4⟩ := hu
            have e := FV_one y1 z1
            rw [e] at y2
            obtain ⟨y5, y6⟩ := y4 e
            obtain ⟨w1, w2⟩ := y6 q q1 q2 v hv
            rw [q3] at w1 w2
            refine ok_f (by rw [y2]; decide) (ok_be (refIn _ y5) (ok_f (by decide) (ok_c hin (ok_f (by rw [hcl, w1]; exact hk) ?_))))
            unfold g_X12_bound_b51 g_X12_bound_b52 g_X12_bound_b65
            exact ok_t rfl (ok_f (by decide) (ok_s rfl))
      · refine no (ok_be spell (ok_t rfl (ok_gs (ok_c a2.1 (ok_b passes (fun r hr => ?_)))))) ?_
        · obtain ⟨y, y1, y2, -, y4⟩ := hr
          have e := FV_one y1 z1
          rw [e, if_pos rfl] at y2
          obtain ⟨y5, -⟩ := y4 e
          refine ok_f (by rw [y2]; decide) ?_
          unfold g_X11_bound_b49
          by_cases g : p2 < 0
          · exact ok_t g (ok_s rfl)
          · refine ok_f g (ok_f (fun g2 => ?_) (ok_s rfl))
            rw [y5] at g2
            rcases ho2 with y | y
            · exact g y
            · rw [Int32.lt_iff_toInt_lt] at g2
              rw [Int32.le_iff_toInt_le] at y
              omega
        · unfold g_X12_bound
          refine ok_be isS (ok_f (by decide) (ok_b faults (fun u hu => ?_)))
          obtain ⟨y, y1, y2, y4⟩ := hu
          have e := FV_one y1 z1
          rw [e] at y2
          obtain ⟨y5, -⟩ := y4 e
          refine ok_f (by rw [y2]; decide) (ok_be (by rw [y5, k_in_idx (by omega), if_neg (out_to (by omega) ho2)]) (ok_t rfl ?_))
          unfold g_X12_bound_b51 g_X12_bound_b52 g_X12_bound_b65
          exact ok_t rfl (ok_f (by decide) (ok_s rfl))
  · refine ok_be ((e_gb (k_needSpell_out ho)).trans (if_neg (by decide))) (ok_f (show ¬ (2 : Int32) = 0 by decide) (ok_t rfl (ok_s ?_)))
    exact ok_be (k_X12_isSpell_out h1 ho h4) (ok_t rfl (ok_be (show g_X12_fails th 1 = some (0, 1) from rfl) (ok_s (AN_n rfl rfl))))
end SPELLQ2
