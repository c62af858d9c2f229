/-! THE LAW's lines holds -/
theorem out_no {k n : Nat} (h : k < n) (hn : n < 2147483648) : ¬ OUT (nI k) n := fun z => by
  have h1 := out_to hn z
  have e : (nI k).toInt = k := nI_toInt (by omega)
  rw [e] at h1
  omega
/-- the line alone is another -/
def LNS (σ σ' : AB) : Prop := σ'.1 = σ.1 ∧ σ'.2.1 = σ.2.1 ∧ σ'.2.2.1 = σ.2.2.1 ∧ σ'.2.2.2.2 = σ.2.2.2.2
theorem LNS.rf {σ : AB} : LNS σ σ := ⟨rfl, rfl, rfl, rfl⟩
theorem LNS.tr {σ σ' σ'' : AB} (h : LNS σ σ') (g : LNS σ' σ'') : LNS σ σ'' := ⟨g.1.trans h.1, g.2.1.trans h.2.1, g.2.2.1.trans h.2.2.1, g.2.2.2.trans h.2.2.2⟩
section PL1
variable {σ : AB} {K : Int32 → AB → Prop}
theorem pl_spells (hK : K 1 σ) (hl : σ.2.2.2.1.length ≤ 16) : wp_L_spells K (nI σ.2.2.2.1.length) σ.2.2.2.1 σ := by
  have hloop : ∀ n k, k ≤ σ.2.2.2.1.length → σ.2.2.2.1.length - k < n → wp_L_spells_b17 K σ.2.2.2.1 n (nI σ.2.2.2.1.length) 1 (nI k) σ := by
    intro n
    induction n with
    | zero => intro k _ h; omega
    | succ n ih =>
      intro k hk hm
      unfold wp_L_spells_b17
      refine ⟨fun c => ?_, fun c => ?_⟩
      · refine ⟨fun z => absurd z (by decide), fun _ => ?_⟩
        intro r1 σ2 hr
        obtain ⟨rfl, hr⟩ := hr
        rw [fx_out (by omega) out_n] at hr
        exact ⟨fun _ => ⟨rfl, hK⟩, fun z => absurd hr z⟩
      · rw [nI_le9 (by omega) (by omega)] at c
        refine ⟨fun z => absurd z (by decide), fun _ => ?_⟩
        intro r4 σ5 hr
        obtain ⟨rfl, hr⟩ := hr
        have hk' : k < σ5.2.2.2.1.length := by omega
        rw [fx_in hk' (by omega)] at hr
        refine ⟨k, hk', rfl, by omega, fun r7 e7 => ?_⟩
        refine ⟨fun _ => ?_, fun z => absurd (hr.trans e7.symm) z⟩
        intro v3 e3
        rw [e3, nI_1]
        exact ih (k + 1) (by omega) (by omega)
  exact ⟨fun _ => hloop 17 0 (Nat.zero_le _) (by omega), fun z => absurd rfl z⟩
end PL1
theorem dgs_len (v : Int32) : (dgs v).length ≤ 5 := dl_len _ _
theorem dgs_len3 {v : Int32} (h1 : -99 ≤ v.toInt) (h2 : v.toInt ≤ 99) : (dgs v).length ≤ 3 := by
  unfold dgs dl
  rw [List.length_append]
  by_cases c : v.toInt.natAbs < 10
  · rw [if_pos c]
    split <;> simp
  · rw [if_neg c, if_pos (show v.toInt.natAbs < 100 by omega)]
    split <;> simp
section PL2
variable {LS : List Nat} {SE : Nat → SV} {σ : AB} {K : Int32 → AB → Prop}
theorem i2c97 : ∀ c : Fin 6, (((97 : Int32) + nI c.1).toUInt32 % 65536).toInt32 = nI (97 + c.1) := by decide +kernel
theorem pl_lines (hB : BOK LS SE σ.1) (hK : ∀ σ', LNS σ σ' → K 1 σ') : wp_L_lines K σ := by
  have h6 := hB.1
  have h4 := hB.2.1
  have hX := hB.2.2.2.2.1
  have hloop : ∀ n k, k ≤ σ.1.2.1 → σ.1.2.1 - k < n → ∀ σ1, LNS σ σ1 → wp_L_lines_b2 K n (nI k) σ1 := by
    intro n
    induction n with
    | zero => intro k _ h; omega
    | succ n ih =>
      intro k hk hm σ1 h1
      have e1 : σ1.1 = σ.1 := h1.1
      unfold wp_L_lines_b2
      refine ⟨n8 (n := 0) (by decide), fun r1 er1 => ?_⟩
      rw [acc0, e1] at er1
      rw [er1]
      refine ⟨fun c => ?_, fun c => ?_⟩
      · refine ⟨n8 (n := 0) (by decide), fun r2 er2 => ?_⟩
        rw [acc0, e1] at er2
        rw [er2, e1]
        intro r3 σ4 hr
        rcases hr with ⟨-, hr, rfl⟩ | ⟨q, hq, hr, -⟩
        · refine ⟨fun _ => ?_, fun z => absurd hr z⟩
          refine ⟨n8 (n := 1) (by decide), fun r5 er5 => ?_⟩
          rw [acc1, e1] at er5
          rw [er5, e1]
          intro r6 σ7 hs
          rcases hs with ⟨-, hs, rfl⟩ | ⟨q, hq, hs, -⟩
          · exact ⟨fun _ => ⟨rfl, hK _ h1⟩, fun z => absurd hs z⟩
          · have := nI_inj (by omega) (by omega) hs; omega
        · have := nI_inj (by omega) (by omega) hr; omega
      · rw [nI_le9 (by omega) (by omega)] at c
        have hk' : k < σ.1.2.1 := by omega
        have hk6 : k < 6 := by omega
        obtain ⟨⟨b1, b2, b3, b4⟩, b5, b6, b7, b8⟩ := hX k hk6
        refine ⟨97 + k, by omega, i2c97 ⟨k, hk6⟩, Nat.le_of_ble_eq_true rfl, Nat.le_of_ble_eq_true rfl, fun r13 e13 => ?_⟩
        rw [e1, of3 hk' h6] at e13
        have ecut : r13 = cutOf σ.1 k := e13
        have hcv : -9999 ≤ r13.toInt ∧ r13.toInt ≤ 9999 := by
          rw [e13]
          by_cases z : σ.1.1.2.2.2.2.2.2.1 k = 0
          · rw [if_pos z]
            have := b8 z
            omega
          · rw [if_neg z]
            exact b4.2
        have hl5 := dgs_len r13
        refine ⟨hcv, by simp only [List.length_append, List.length_nil, List.length_cons]; omega, fun r16 e16 => ?_⟩
        rw [e1, of0 hk' h6] at e16
        -- behind the telling
        have go : ∀ (T : List Nat), T = lnC σ.1 k → T.length ≤ 16 → ∀ (r : Int32) (σ2 : AB), ((OUT (nI k) σ.1.2.1 ∧ r = -11 ∧ σ2 = σ1) ∨ (∃ k9, k9 < σ.1.2.1 ∧ nI k = nI k9 ∧ r = nI (lnC σ.1 k9).length ∧ σ2 = (σ.1, σ1.2.1, σ1.2.2.1, lnC σ.1 k9, σ1.2.2.2.2))) → wp_L_spells (fun (r44 : Int32) (σ43 : AB) => (r44 = 0 → K (0 : Int32) σ43) ∧ (¬ r44 = 0 → ∀ v45 : Int32, v45 = nI k + 1 → wp_L_lines_b2 K n v45 σ43)) r T σ2 := by
          intro T eT hT r σ2 hr
          rcases hr with ⟨hr, -, -⟩ | ⟨k9, hk9, ek, er, e2⟩
          · exact absurd hr (out_no hk' (by omega))
          · obtain rfl : k = k9 := nI_inj (by omega) (by omega) ek
            subst e2
            rw [er, eT]
            refine pl_spells (σ := (σ.1, σ1.2.1, σ1.2.2.1, lnC σ.1 k, σ1.2.2.2.2)) ?_ (by rw [← eT]; exact hT)
            refine ⟨fun z => absurd z (by decide), fun _ v45 e45 => ?_⟩
            rw [e45, nI_1]
            exact ih (k + 1) (by omega) (by omega) _ ⟨rfl, h1.2.1, h1.2.2.1, h1.2.2.2⟩
        refine ⟨fun z => ?_, fun z => ?_⟩
        · have z1 : σ.1.1.2.2.2.2.2.2.1 k ≠ 0 := fun y => by rw [e16, y] at z; exact absurd z (by decide)
          refine ⟨by simp only [List.length_append, List.length_nil, List.length_cons]; omega, by simp only [List.length_append, List.length_nil, List.length_cons]; omega, ?_⟩
          rw [e1]
          refine go _ ?_ ?_
          rotate_left
          · simp only [List.length_append, List.length_nil, List.length_cons]
            omega
          unfold lnC
          rw [if_neg z1, ← ecut]
        · have z1 : σ.1.1.2.2.2.2.2.2.1 k = 0 := (bo_cases b1).resolve_right (fun y => z (e16.trans y))
          have h8 := b8 z1
          have l1 : (dgs r13).length ≤ 3 := dgs_len3 (by rw [e13, if_pos z1]; omega) (by rw [e13, if_pos z1]; omega)
          refine ⟨by decide, fun r20 e20 => ?_⟩
          rw [e1, of1 hk' h6] at e20
          have l2 : (dgs r20).length ≤ 3 := dgs_len3 (by rw [e20]; omega) (by rw [e20]; omega)
          refine ⟨by rw [e20]; omega, by simp only [List.length_append, List.length_nil, List.length_cons]; omega, by simp only [List.length_append, List.length_nil, List.length_cons]; omega, fun r25 e25 => ?_⟩
          rw [e1, of2 hk' h6] at e25
          have l3 : (dgs r25).length ≤ 3 := dgs_len3 (by rw [e25]; omega) (by rw [e25]; omega)
          refine ⟨by rw [e25]; omega, by simp only [List.length_append, List.length_nil, List.length_cons]; omega, by simp only [List.length_append, List.length_nil, List.length_cons]; omega, by simp only [List.length_append, List.length_nil, List.length_cons]; omega, by simp only [List.length_append, List.length_nil, List.length_cons]; omega, by simp only [List.length_append, List.length_nil, List.length_cons]; omega, ?_⟩
          rw [e1]
          refine go _ ?_ ?_
          rotate_left
          · simp only [List.length_append, List.length_nil, List.length_cons]
            omega
          unfold lnC
          rw [if_pos z1, ← ecut, ← e20, ← e25]
          simp only [List.append_assoc, List.nil_append]
  exact hloop 7 0 (Nat.zero_le _) (by omega) σ LNS.rf
end PL2
