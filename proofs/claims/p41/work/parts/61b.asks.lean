/-! WHAT THE CLASS ANSWERS, told by its book: bound, ranked, widest, accounts, bits, means (gen/spec2.py) -/
theorem NS_at {k : Nat → Nat} {m : Nat} : ∀ T, m < NS k T → ∃ q, q < T ∧ k q = 7 ∧ NS k q = m
  | 0, h => absurd h (Nat.not_lt_zero m)
  | T + 1, h => by
    rw [NS_s] at h
    by_cases g : m < NS k T
    · obtain ⟨q, h1, h2, h3⟩ := NS_at T g
      exact ⟨q, by omega, h2, h3⟩
    · by_cases e : k T = 7
      · rw [if_pos e] at h
        exact ⟨T, by omega, e, by omega⟩
      · rw [if_neg e] at h
        omega
theorem share_n : ∀ a, a < 5 → ∀ b, b < 5 → b ≠ 0 → n32 (FP.fdiv (FP.i2f (nI a)) (FP.i2f (nI b))) = true ∧ n64 (FP.f2d (FP.fdiv (FP.i2f (nI a)) (FP.i2f (nI b)))) = true := by decide +kernel
def RKF (A : Nat → Nat → Bool) (n p : Nat) : Nat → Option Nat
  | 0 => none
  | j + 1 => match RKF A n p j with
    | some q => some q
    | none => if RK A j n = p then some j else none
theorem RKF_is {A : Nat → Nat → Bool} {n p q : Nat} (h1 : RK A q n = p) (h2 : ∀ j, j < n → RK A j n = p → j = q) : ∀ m, m ≤ n → RKF A n p m = if q < m then some q else none
  | 0, _ => (if_neg (Nat.not_lt_zero q)).symm
  | m + 1, hm => by
    unfold RKF
    rw [RKF_is h1 h2 m (by omega)]
    by_cases c : q < m
    · rw [if_pos c]
      exact (if_pos (by omega)).symm
    · rw [if_neg c]
      dsimp only
      by_cases e : RK A m n = p
      · have := h2 m (by omega) e
        subst this
        rw [if_pos e, if_pos (by omega)]
      · rw [if_neg e, if_neg (fun z => ?_)]
        have : q = m := by omega
        subst this
        exact e h1
def f_ranked (B : BB) (p : Int32) : Int32 := match fx p B.2.2.1 with
  | none => -14
  | some i => match RKF (AHb B.2.2.2) B.2.2.1 i B.2.2.1 with
    | none => -14
    | some q => nI q
def f_widest (B : BB) : Int32 := match WD B.1.2.2.2.2.2.2.1 B.1.2.2.2.2.2.2.2.1 B.1.2.2.2.2.2.2.2.2.1 B.2.1 with
  | none => -14
  | some c => nI c
def f_account (B : BB) (bo9 q : Int32) : Int32 := if q = 0 then nI B.2.1 else if q = 1 then nI B.2.2.1 else if q = 2 then nI (CT B.1.2.2.2.2.2.2.1 B.1.2.2.2.2.2.2.2.1 B.1.2.2.2.2.2.2.2.2.1 B.2.2.2 B.2.2.1) else if q = 3 then SBo B.1.2.2.2.2.2.2.1 B.2.1 else if q = 4 then B.1.2.2.1 else if q = 5 then B.1.2.2.2.1 else if q = 6 then bo9 else SBo B.1.2.2.2.2.1 B.2.1
def f_reason (r : Int32 × Int32 × Int32) (d : Int32) : Int32 := if r.1 = 0 then -2000014 else if d = 0 then r.2.1 else r.2.2
def f_bits (B : BB) (p : Int32) : Int32 := (if B.1.2.2.2.2.2.2.1 p.toNatClampNeg = 0 then FP.i2f (B.1.2.2.2.2.1 p.toNatClampNeg) else B.1.2.2.2.2.2.1 p.toNatClampNeg).toInt32
def f_share (B : BB) : UInt32 := FP.fdiv (FP.i2f (nI (CT B.1.2.2.2.2.2.2.1 B.1.2.2.2.2.2.2.2.1 B.1.2.2.2.2.2.2.2.2.1 B.2.2.2 B.2.2.1))) (FP.i2f (nI B.2.2.1))
def f_mean (B : BB) : Int64 := (FP.ddiv (ME B.1.2.2.2.2.2.2.1 B.1.2.2.2.2.1 B.1.2.2.2.2.2.1 B.2.1) (FP.i2d (nI B.2.1))).toInt64
section KP2
variable {LS : List Nat} {SE : Nat → SV} {B : BB} {fa so sps p1 p2 p3 le bd pm kp rs de hc9 ca cd : Int32} {iB sB : Nat → Int32} {l h sL sH : Nat → Int64}
theorem kp_ranked (hB : BOK LS SE B) : Ok (g_L_ranked LS SE B.1.2.1 B.1.2.2.2.2.2.2.2.2.2.2.1 p1) (fun o => o = f_ranked B p1) := by
  obtain ⟨h6, h4, e1, e2, hX, hT⟩ := hB
  unfold g_L_ranked g_X11_ranked
  rw [e2]
  rcases idx p1 B.2.2.1 (by omega) with ⟨p, hp, rfl⟩ | ho
  · obtain ⟨q, hq, r1, r2⟩ := ue_AH B.2.2.2 h4 p hp
    refine ok_be (l_rankedC h4 hT hp hq r1 r2 100 0 (Nat.zero_le _) (by omega)) (ok_t rfl (ok_s ?_))
    unfold f_ranked
    rw [fx_in hp (by omega)]
    dsimp only
    rw [RKF_is r1 r2 B.2.2.1 (Nat.le_refl _), if_pos hq]
  · refine ok_be (l_rankedN h4 hT ho 100 0 (Nat.zero_le _) (by omega)) (ok_f (show ¬ (3 : Int32) = 0 by decide) (ok_t rfl (ok_s ?_)))
    unfold f_ranked
    rw [fx_out (by omega) ho]
theorem kp_widest (hB : BOK LS SE B) : Ok (g_L_widest B.1.1 B.1.2.2.2.2.2.2.2.2.1 B.1.2.2.2.2.2.2.2.1 B.1.2.2.2.2.2.2.1) (fun o => o = f_widest B) := by
  obtain ⟨h6, h4, e1, e2, hX, hT⟩ := hB
  unfold g_L_widest g_X11_widest f_widest
  rw [e1]
  have c1 := l_widestC h6 hX 100 0 (Nat.zero_le _) (by omega)
  cases hw : WD B.1.2.2.2.2.2.2.1 B.1.2.2.2.2.2.2.2.1 B.1.2.2.2.2.2.2.2.2.1 B.2.1 with
  | none =>
    rw [hw] at c1
    exact ok_be c1 (ok_f (show ¬ (3 : Int32) = 0 by decide) (ok_t rfl (ok_s rfl)))
  | some w =>
    rw [hw] at c1
    exact ok_be c1 (ok_t rfl (ok_s rfl))
theorem kp_account (hB : BOK LS SE B) (hp : ∃ n, n < 8 ∧ p1 = nI n) : Ok (g_X11_account LS SE le bd B.1.1 B.1.2.1 B.1.2.2.1 B.1.2.2.2.1 B.1.2.2.2.2.2.2.2.2.2.2.1 fa so sps B.1.2.2.2.2.2.2.1 B.1.2.2.2.2.2.2.2.1 B.1.2.2.2.2.2.2.2.2.1 iB l h sB sL sH B.1.2.2.2.2.1 pm p1) (fun o => o.1 = 0 ∧ o.2.1 = f_account B bd p1) := by
  obtain ⟨h6, h4, e1, e2, hX, hT⟩ := hB
  have hbo := CX_bo hX
  unfold g_X11_account f_account
  rw [e1, e2]
  by_cases p0 : p1 = 0
  · exact ok_t p0 (ok_s ⟨rfl, (if_pos p0).symm⟩)
  refine ok_f p0 ?_
  rw [if_neg p0]
  by_cases q1 : p1 = 1
  · exact ok_t q1 (ok_s ⟨rfl, (if_pos q1).symm⟩)
  refine ok_f q1 ?_
  rw [if_neg q1]
  by_cases q2 : p1 = 2
  · exact ok_t q2 (ok_b (k_countTyped h6 h4 hbo hT fa so sps iB sB l h sL sH) (fun r hr => ok_s ⟨rfl, hr.trans (if_pos q2).symm⟩))
  refine ok_f q2 ?_
  rw [if_neg q2]
  by_cases q3 : p1 = 3
  · exact ok_t q3 (ok_be (l_brothC h6 hbo 100 0 (Nat.zero_le _) (by omega)) (ok_s ⟨rfl, (if_pos q3).symm⟩))
  refine ok_f q3 ?_
  rw [if_neg q3]
  by_cases q4 : p1 = 4
  · exact ok_t q4 (ok_s ⟨rfl, (if_pos q4).symm⟩)
  refine ok_f q4 ?_
  rw [if_neg q4]
  by_cases q5 : p1 = 5
  · exact ok_t q5 (ok_s ⟨rfl, (if_pos q5).symm⟩)
  refine ok_f q5 ?_
  rw [if_neg q5]
  by_cases q6 : p1 = 6
  · exact ok_t q6 (ok_s ⟨rfl, (if_pos q6).symm⟩)
  refine ok_f q6 ?_
  rw [if_neg q6]
  have q7 : p1 = 7 := by
    obtain ⟨n, hn, rfl⟩ := hp
    have : n = 0 ∨ n = 1 ∨ n = 2 ∨ n = 3 ∨ n = 4 ∨ n = 5 ∨ n = 6 ∨ n = 7 := by omega
    rcases this with e | e | e | e | e | e | e | e <;> subst e
    · exact absurd rfl p0
    · exact absurd rfl q1
    · exact absurd rfl q2
    · exact absurd rfl q3
    · exact absurd rfl q4
    · exact absurd rfl q5
    · exact absurd rfl q6
    · rfl
  exact ok_t q7 (ok_be (l_dramsC h6 hX 100 0 (Nat.zero_le _) (by omega)) (ok_s ⟨rfl, rfl⟩))
theorem kp_typed (hB : BOK LS SE B) : Ok (g_X11_typed LS SE B.1.2.1 B.1.2.2.2.2.2.2.2.2.2.2.1 fa so sps B.1.2.2.2.2.2.2.1 B.1.2.2.2.2.2.2.2.1 B.1.2.2.2.2.2.2.2.2.1 iB l h sB sL sH) (fun o => o.1 = nI (CT B.1.2.2.2.2.2.2.1 B.1.2.2.2.2.2.2.2.1 B.1.2.2.2.2.2.2.2.2.1 B.2.2.2 B.2.2.1)) := by
  obtain ⟨h6, h4, e1, e2, hX, hT⟩ := hB
  unfold g_X11_typed
  rw [e2]
  exact ok_b (k_countTyped h6 h4 (CX_bo hX) hT fa so sps iB sB l h sL sH) (fun r hr => ok_s hr)
theorem kp_typedShare (hB : BOK LS SE B) (hz : B.2.2.1 ≠ 0) : Ok (g_X11_typedShare LS SE B.1.2.1 B.1.2.2.2.2.2.2.2.2.2.2.1 fa so sps B.1.2.2.2.2.2.2.1 B.1.2.2.2.2.2.2.2.1 B.1.2.2.2.2.2.2.2.2.1 iB l h sB sL sH) (fun o => o.1 = 0 ∧ o.2.1 = f_share B) := by
  obtain ⟨h6, h4, e1, e2, hX, hT⟩ := hB
  unfold g_X11_typedShare f_share
  rw [e2]
  have hcle := CT_le B.1.2.2.2.2.2.2.1 B.1.2.2.2.2.2.2.2.1 B.1.2.2.2.2.2.2.2.2.1 B.2.2.2 B.2.2.1
  obtain ⟨m1, m2⟩ := share_n (CT B.1.2.2.2.2.2.2.1 B.1.2.2.2.2.2.2.2.1 B.1.2.2.2.2.2.2.2.2.1 B.2.2.2 B.2.2.1) (by omega) B.2.2.1 (by omega) hz
  have hnz : ¬ nI B.2.2.1 = 0 := fun z => hz (nI_inj (by omega) (by omega) (show nI B.2.2.1 = nI 0 from z))
  refine ok_f hnz (ok_b (k_countTyped h6 h4 (CX_bo hX) hT fa so sps iB sB l h sL sH) (fun r hr => ?_))
  rw [hr]
  exact ok_c m1 (ok_l (ok_s ⟨rfl, rfl⟩))
theorem kp_bits (hB : BOK LS SE B) {c : Nat} (hc : c < B.2.1) : Ok (g_X11_bits B.1.1 B.1.2.2.2.2.2.2.1 B.1.2.2.2.2.1 B.1.2.2.2.2.2.1 (nI c)) (fun o => o.1 = 0 ∧ o.2 = f_bits B (nI c)) := by
  obtain ⟨h6, h4, e1, e2, hX, hT⟩ := hB
  have hc6 : c < 6 := by omega
  obtain ⟨⟨a1, a2, a3, a4⟩, -⟩ := hX c hc6
  have hin : inb (nI c) 6 = true := x_inb hc6 (by omega)
  have hcl : (nI c).toNatClampNeg = c := x_cl (by omega)
  obtain ⟨F, hF⟩ : ∃ F, F = f_bits B (nI c) := ⟨_, rfl⟩
  rw [← hF]
  unfold f_bits at hF
  rw [hcl] at hF
  unfold g_X11_bits
  rw [e1, hcl]
  by_cases hk : B.1.2.2.2.2.2.2.1 c = 0
  · rw [if_pos hk] at hF
    exact ok_be (k_needCauldron_in hc h6) (ok_t rfl (ok_c hin (ok_t hk (ok_c hin (ok_be (k_bitsOf (ff_i2f _)) (ok_s ⟨rfl, hF.symm⟩))))))
  · rw [if_neg hk] at hF
    exact ok_be (k_needCauldron_in hc h6) (ok_t rfl (ok_c hin (ok_f hk (ok_c hin (ok_be (k_bitsOf a4.1) (ok_s ⟨rfl, hF.symm⟩))))))
theorem kp_meanBits (hB : BOK LS SE B) (hz : B.2.1 ≠ 0) : Ok (g_X11_meanBits B.1.1 B.1.2.2.2.2.2.2.1 B.1.2.2.2.2.1 B.1.2.2.2.2.2.1) (fun o => o.1 = 0 ∧ o.2 = f_mean B) := by
  obtain ⟨h6, h4, e1, e2, hX, hT⟩ := hB
  unfold g_X11_meanBits
  rw [e1]
  have hnz : ¬ nI B.2.1 = 0 := fun z => hz (nI_inj (by omega) (by omega) (show nI B.2.1 = nI 0 from z))
  exact ok_f hnz (ok_e (l_meanC h6 hz hX 100 0 (Nat.zero_le _) (by omega)) ⟨rfl, rfl⟩)
theorem kp_reason (h0 : p1 = 0) : Ok (g_L_reason kp rs de hc9 ca cd p1 p2) (fun o => o = f_reason (kp, rs, de) p2) := by
  obtain ⟨F, hF⟩ : ∃ F, F = f_reason (kp, rs, de) p2 := ⟨_, rfl⟩
  rw [← hF]
  unfold f_reason at hF
  unfold g_L_reason g_X11_reason
  by_cases hk : kp = 0
  · have hF := hF.trans (if_pos hk)
    exact ok_be (if_pos hk) (ok_f (show ¬ (3 : Int32) = 0 by decide) (ok_t rfl (ok_l (ok_s hF.symm))))
  · have hF := hF.trans (if_neg hk)
    by_cases hp : p2 = 0
    · have hF := hF.trans (if_pos hp)
      exact ok_be ((if_neg hk).trans ((if_pos h0).trans (if_pos hp))) (ok_t rfl (ok_s hF.symm))
    · have hF := hF.trans (if_neg hp)
      exact ok_be ((if_neg hk).trans ((if_pos h0).trans (if_neg hp))) (ok_t rfl (ok_s hF.symm))
theorem kp_bound (hB : BOK LS SE B) : Ok (g_L_bound LS SE B.1.2.1 B.1.2.2.2.2.2.2.2.2.2.2.1 fa so sps B.1.2.2.2.2.2.2.1 B.1.2.2.2.2.2.2.2.1 B.1.2.2.2.2.2.2.2.2.1 iB l h sB sL sH p1 p2 p3) (fun o => o.1 = f_bound B p1 p2 p3) := by
  obtain ⟨h6, h4, e1, e2, hX, hT⟩ := hB
  have hbo := CX_bo hX
  unfold g_L_bound g_X11_bound
  rw [e2]
  rcases idx p1 B.2.2.1 (by omega) with ⟨i, hi, rfl⟩ | ho
  · obtain ⟨⟨a, a1, a2⟩, a3, a4, a5⟩ := hT.1 i hi
    have hsh := OKT_SH a3
    have hTT := hsh.1
    have hnl := NS_le (rT (B.2.2.2 i)).2.1 (rT (B.2.2.2 i)).1
    have spell := k_needSpell_in hi h4 a1 a2
    have passes := k9x (lo := B.1.2.2.2.2.2.2.2.1) (hi := B.1.2.2.2.2.2.2.2.2.1) a2 a3 h6 hbo fa so sps iB sB l h sL sH
    unfold f_bound
    rw [fx_in hi (by omega)]
    dsimp only
    by_cases hz : flT B.1.2.2.2.2.2.2.1 B.1.2.2.2.2.2.2.2.1 B.1.2.2.2.2.2.2.2.2.1 (B.2.2.2 i) = none
    · rw [if_pos hz]
      rcases idx p2 (NS (rT (B.2.2.2 i)).2.1 (rT (B.2.2.2 i)).1) (by omega) with ⟨m, hm, rfl⟩ | ho2
      · obtain ⟨q, q1, q2, q3⟩ := NS_at _ hm
        have hin : inb (nI m) 24 = true := x_inb (by omega) (by omega)
        have hcl : (nI m).toNatClampNeg = m := x_cl (by omega)
        have hnn : ¬ nI m < 0 := nI_nlt (b := 0) (Nat.zero_le _) (by omega)
        have hnl2 : nI m < nI (NS (rT (B.2.2.2 i)).2.1 (rT (B.2.2.2 i)).1) := nI_lt hm (by omega)
        have hst : STP (rT (B.2.2.2 i)).2.1 m (rT (B.2.2.2 i)).1 = some q := by rw [← q3]; exact STP_at q2 _ q1
        rw [fx_in hm (by omega)]
        dsimp only
        rw [hst]
        dsimp only
        cases hv : vG (tyP B.1.2.2.2.2.2.2.1 B.1.2.2.2.2.2.2.2.1 B.1.2.2.2.2.2.2.2.2.1 (rT (B.2.2.2 i)).2.1 (rT (B.2.2.2 i)).2.2.1) q with
        | none =>
          have := FN_FV (tyP B.1.2.2.2.2.2.2.1 B.1.2.2.2.2.2.2.2.1 B.1.2.2.2.2.2.2.2.2.1 (rT (B.2.2.2 i)).2.1 (rT (B.2.2.2 i)).2.2.1) (rT (B.2.2.2 i)).1
          rw [show FN (tyP B.1.2.2.2.2.2.2.1 B.1.2.2.2.2.2.2.2.1 B.1.2.2.2.2.2.2.2.2.1 (rT (B.2.2.2 i)).2.1 (rT (B.2.2.2 i)).2.2.1) (rT (B.2.2.2 i)).1 = none from hz] at this
          exact absurd hv (this q q1)
        | some v =>
          dsimp only
          by_cases hk : v.1 = 0
          · rw [if_pos hk]
            refine ok_b (R := fun r => r.1 = 0 ∧ r.2.1 = if p3 = 0 then v.2.1.toInt32 else v.2.2.toInt32) (ok_be spell (ok_t rfl (ok_gs (ok_c a2.1 (ok_b passes (fun r hr => ?_)))))) (fun r hr => ok_t hr.1 (ok_s hr.2))
            obtain ⟨y, y1, y2, -, y4⟩ := hr
            have ey : y = none := (FN_of y1).trans hz
            rw [ey, if_pos rfl] at y2
            obtain ⟨y5, y6⟩ := y4 ey
            obtain ⟨w1, w2⟩ := y6 q q1 q2 v hv
            rw [q3] at w1 w2
            obtain ⟨w3, w4⟩ := w2 hk
            refine ok_f (by rw [y2]; decide) (ok_f hnn (ok_t (by rw [y5]; exact hnl2) (ok_c hin (ok_t (by rw [hcl, w1]; exact hk) ?_))))
            by_cases hp : p3 = 0
            · rw [if_pos hp, if_pos hp]
              exact ok_c hin (ok_l (ok_s ⟨rfl, by rw [hcl, w3]⟩))
            · rw [if_neg hp, if_neg hp]
              exact ok_c hin (ok_l (ok_s ⟨rfl, by rw [hcl, w4]⟩))
          · rw [if_neg hk]
            refine ok_b (R := fun r => r.1 = 3) (ok_be spell (ok_t rfl (ok_gs (ok_c a2.1 (ok_b passes (fun r hr => ?_)))))) (fun r hr => ok_f (by rw [hr]; decide) (ok_f (by rw [hr]; decide) (ok_t hr (ok_s rfl))))
            obtain ⟨y, y1, y2, -, y4⟩ := hr
            have ey : y = none := (FN_of y1).trans hz
            rw [ey, if_pos rfl] at y2
            obtain ⟨y5, y6⟩ := y4 ey
            obtain ⟨w1, w2⟩ := y6 q q1 q2 v hv
            rw [q3] at w1
            exact ok_f (by rw [y2]; decide) (ok_f hnn (ok_t (by rw [y5]; exact hnl2) (ok_c hin (ok_f (by rw [hcl, w1]; exact hk) (ok_s rfl)))))
      · rw [fx_out (by omega) ho2]
        dsimp only
        refine ok_b (R := fun r => r.1 = 3) (ok_be spell (ok_t rfl (ok_gs (ok_c a2.1 (ok_b passes (fun r hr => ?_)))))) (fun r hr => ok_f (by rw [hr]; decide) (ok_f (by rw [hr]; decide) (ok_t hr (ok_s rfl))))
        obtain ⟨y, y1, y2, -, y4⟩ := hr
        have ey : y = none := (FN_of y1).trans hz
        rw [ey, if_pos rfl] at y2
        obtain ⟨y5, -⟩ := y4 ey
        refine ok_f (by rw [y2]; decide) ?_
        unfold g_X11_bound_b49
        by_cases g : p2 < 0
        · exact ok_t g (ok_s rfl)
        · refine ok_f g (ok_f (fun g2 => ?_) (ok_s rfl))
          rw [y5] at g2
          rcases ho2 with y | y
          · exact g y
          · rw [Int32.lt_iff_toInt_lt] at g2
            rw [Int32.le_iff_toInt_le] at y
            omega
    · rw [if_neg hz]
      refine ok_b (R := fun r => r.1 = 3) (ok_be spell (ok_t rfl (ok_gs (ok_c a2.1 (ok_b passes (fun r hr => ?_)))))) (fun r hr => ok_f (by rw [hr]; decide) (ok_f (by rw [hr]; decide) (ok_t hr (ok_s rfl))))
      obtain ⟨y, y1, y2, -⟩ := hr
      have ey : y = flT B.1.2.2.2.2.2.2.1 B.1.2.2.2.2.2.2.2.1 B.1.2.2.2.2.2.2.2.2.1 (B.2.2.2 i) := FN_of y1
      rw [ey, if_neg hz] at y2
      exact ok_t y2 (ok_s rfl)
  · refine ok_be ((e_gb (k_needSpell_out ho)).trans (if_neg (by decide))) (ok_f (show ¬ (2 : Int32) = 0 by decide) (ok_t rfl (ok_s ?_)))
    unfold f_bound
    rw [fx_out (by omega) ho]
end KP2
