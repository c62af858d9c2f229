/-! THE CALLS undo, save, restore, append -/
section UNDO
variable {LS : List Nat} {SE : Nat → SV} {RA : Nat → BK} {nx ch n4 a : Nat} {b sb : BK} {past be s rf sv : Nat → Int32} {pastF beF f svF : Nat → UInt32} {kp rs de hc ca cd th p1 p2 p3 bd le ke isv : Int32} {ans : Nat → Int64} {bks : Nat → Option Nat}
/-- the ring and the rows, the ring as it was -/
def NI (LS : List Nat) (SE : Nat → SV) (RA : Nat → BK) (nx : Nat) (nv cv pv : Int32) (past : Nat → Int32) (pastF : Nat → UInt32) : Prop := ∃ nx' ch', nv = nI nx' ∧ cv = nI ch' ∧ pv = nI ch' ∧ HA LS SE RA nx' ch' past pastF ∧ (nx' = nx ∨ nx' = if nx = 0 then 5 else nx - 1)
/-- what is saved -/
def SVR (LS : List Nat) (SE : Nat → SV) (iv : Int32) (sb : BK) (sv : Nat → Int32) (svF : Nat → UInt32) : Prop := iv = 0 ∨ (iv = 1 ∧ BR LS SE sb sv svF)
/-- the characters that are told -/
def TXR (le : Int32) (inp mt : Nat → Int32) : Prop := ∃ (m : Nat) (x : Nat → Nat), m ≤ 60 ∧ le = nI m ∧ ∀ j, j < m → inp j = nI (x j) ∧ mt j = nI (x j) ∧ x j < 65536
theorem op_undo (hB : BR LS SE b s f) (hH : HA LS SE RA nx ch past pastF) {pv : Nat} (hpv : pv = if nx = 0 then 5 else nx - 1) (hq : bks pv = some a) (hn : 0 < n4) (hn9 : n4 < 2147483648) :
    Ok (g_L_undo LS SE n4 ans (nI nx) (nI ch) b.1 b.2.1 b.2.2.1 b.2.2.2.1 bks (RA pv).1 (RA pv).2.1 (RA pv).2.2.1 (RA pv).2.2.2.1 b.2.2.2.2.1 (RA pv).2.2.2.2.1 b.2.2.2.2.2.1 (RA pv).2.2.2.2.2.1 b.2.2.2.2.2.2.1 (RA pv).2.2.2.2.2.2.1 b.2.2.2.2.2.2.2.1 (RA pv).2.2.2.2.2.2.2.1 b.2.2.2.2.2.2.2.2.1 (RA pv).2.2.2.2.2.2.2.2.1 b.2.2.2.2.2.2.2.2.2.1 (RA pv).2.2.2.2.2.2.2.2.2.1 b.2.2.2.2.2.2.2.2.2.2.1 (RA pv).2.2.2.2.2.2.2.2.2.2.1 b.2.2.2.2.2.2.2.2.2.2.2 (RA pv).2.2.2.2.2.2.2.2.2.2.2 a) (fun o => Ok (g_X12_undo (nI ch) th past s pastF f) (fun o' => AN ans o.1 o.2.1 o'.1 o'.2.2.1 ∧ BR LS SE (o.2.2.2.2.1, o.2.2.2.2.2.1, o.2.2.2.2.2.2.1, o.2.2.2.2.2.2.2.1, o.2.2.2.2.2.2.2.2.1, o.2.2.2.2.2.2.2.2.2.1, o.2.2.2.2.2.2.2.2.2.2.1, o.2.2.2.2.2.2.2.2.2.2.2.1, o.2.2.2.2.2.2.2.2.2.2.2.2.1, o.2.2.2.2.2.2.2.2.2.2.2.2.2.1, o.2.2.2.2.2.2.2.2.2.2.2.2.2.2.1, o.2.2.2.2.2.2.2.2.2.2.2.2.2.2.2) o'.2.2.2.1 o'.2.2.2.2 ∧ NI LS SE RA nx o.2.2.1 o.2.2.2.1 o'.2.1 past pastF)) := by
  have hgc : inb 0 n4 = true := decide_eq_true ⟨by decide, by show (0 : Int) < n4; omega⟩
  obtain ⟨hn6, hc6, hHR⟩ := id hH
  unfold g_L_undo g_X11_undo g_X12_undo
  by_cases hc0 : ch = 0
  · subst hc0
    refine bt rfl (bs (ok_f (show ¬ (3 : Int32) = 0 by decide) (ok_t rfl (ok_s ?_))))
    refine ok_t rfl ?_
    unfold g_X12_undo_b13
    exact ok_f (by decide) (ok_s ⟨AN_n rfl rfl, hB, ⟨nx, 0, rfl, rfl, rfl, hH, Or.inl rfl⟩⟩)
  · have hnz : ¬ nI ch = 0 := fun z => hc0 (nI_inj (by omega) (by omega) (show nI ch = nI 0 from z))
    have hlast := hHR (ch - 1) (by omega)
    have e1 : RG RA nx (6 - ch + (ch - 1)) = RA pv := by
      unfold RG
      rw [hpv]
      congr 1
      split <;> omega
    rw [e1] at hlast
    obtain ⟨htx, hbo⟩ := BR_tx hlast
    have e2 : nI ch - 1 = nI (ch - 1) := x_sub (b := 1) (by omega)
    refine bf hnz (ba (ok_b (k_X4_giveBack (LS := LS) (SE := SE) (q := RA pv) htx hbo b hn6 (by omega) (by rw [← hpv]; exact hq)) (fun r hr => bs (ok_t rfl (ok_c hgc (ok_s ?_))))))
    obtain ⟨r1, r2, r3⟩ := hr
    rw [r1, r2]
    refine ok_f hnz ?_
    unfold g_X12_undo_b13
    refine ok_t (by decide) (ok_l ?_)
    rw [e2, c_282, pk_mul, c_6, pk_mul]
    refine ok_c (cp_ok (sp := 282 * (ch - 1)) (dp := 0) (n := 282) (by omega) (by omega) (by omega) (by omega)) (ok_c (cp_ok (sp := 6 * (ch - 1)) (dp := 0) (n := 6) (by omega) (by omega) (by omega) (by omega)) (ok_s ⟨AN_y rfl rfl, BR_ag' hlast r3 (fun k hk => ?_) (fun k hk => ?_), ⟨_, ch - 1, rfl, rfl, rfl, ⟨?_, by omega, ?_⟩, Or.inr rfl⟩⟩))
    · rw [x_cl (a := 282 * (ch - 1)) (by omega)]
      exact (cpy_at (Nat.zero_le _) (by show k < 0 + 282; omega)).trans (congrArg past (by omega))
    · rw [x_cl (a := 6 * (ch - 1)) (by omega)]
      exact (cpy_at (Nat.zero_le _) (by show k < 0 + 6; omega)).trans (congrArg pastF (by omega))
    · split <;> omega
    · refine HR_cg (HR_pop (ch := ch - 1) (Q := RG RA nx) ?_ (by omega)) (by omega) (RG_pop hn6)
      rw [show ch - 1 + 1 = ch by omega]
      exact hHR
theorem op_save (hB : BR LS SE b s f) :
    Ok (g_X11_save LS SE isv sb.1 sb.2.1 sb.2.2.1 sb.2.2.2.1 b.1 b.2.1 b.2.2.1 b.2.2.2.1 sb.2.2.2.2.1 b.2.2.2.2.1 sb.2.2.2.2.2.1 b.2.2.2.2.2.1 sb.2.2.2.2.2.2.1 b.2.2.2.2.2.2.1 sb.2.2.2.2.2.2.2.1 b.2.2.2.2.2.2.2.1 sb.2.2.2.2.2.2.2.2.1 b.2.2.2.2.2.2.2.2.1 sb.2.2.2.2.2.2.2.2.2.1 b.2.2.2.2.2.2.2.2.2.1 sb.2.2.2.2.2.2.2.2.2.2.1 b.2.2.2.2.2.2.2.2.2.2.1 sb.2.2.2.2.2.2.2.2.2.2.2 b.2.2.2.2.2.2.2.2.2.2.2) (fun o => Ok (g_X12_save isv th s sv f svF) (fun o' => o.1 = o'.1 ∧ o.2.1 = 1 ∧ o'.2.1 = 1 ∧ SVR LS SE 1 (o.2.2.1, o.2.2.2.1, o.2.2.2.2.1, o.2.2.2.2.2.1, o.2.2.2.2.2.2.1, o.2.2.2.2.2.2.2.1, o.2.2.2.2.2.2.2.2.1, o.2.2.2.2.2.2.2.2.2.1, o.2.2.2.2.2.2.2.2.2.2.1, o.2.2.2.2.2.2.2.2.2.2.2.1, o.2.2.2.2.2.2.2.2.2.2.2.2.1, o.2.2.2.2.2.2.2.2.2.2.2.2.2) o'.2.2.2.1 o'.2.2.2.2)) := by
  obtain ⟨nc, ns, X, hBx⟩ := id hB
  obtain ⟨h6, h4, e1, e2, h0, h1, h2, h3, hX, hS, hT⟩ := id hBx
  obtain ⟨htx, hbo⟩ := BR_tx hB
  unfold g_X11_save g_X12_save
  refine ok_b (k_X0_copy (LS := LS) (SE := SE) htx hbo sb) (fun r hr => ok_s (ok_c rfl (ok_c rfl (ok_c rfl (ok_l (ok_s ⟨?_, rfl, rfl, Or.inr ⟨rfl, BR_ag' hB hr (AG_cpy _ _ _) (AG_cpy _ _ _)⟩⟩))))))
  exact e2.trans h1.symm
theorem op_restore (hB : BR LS SE b s f) (hH : HA LS SE RA nx ch past pastF) (hV : SVR LS SE isv sb sv svF) (hn : 0 < n4) (hn9 : n4 < 2147483648) :
    Ok (g_L_restore LS SE n4 isv ans b.1 b.2.1 b.2.2.1 b.2.2.2.1 sb.1 sb.2.1 sb.2.2.1 sb.2.2.2.1 b.2.2.2.2.1 sb.2.2.2.2.1 b.2.2.2.2.2.1 sb.2.2.2.2.2.1 b.2.2.2.2.2.2.1 sb.2.2.2.2.2.2.1 b.2.2.2.2.2.2.2.1 sb.2.2.2.2.2.2.2.1 b.2.2.2.2.2.2.2.2.1 sb.2.2.2.2.2.2.2.2.1 b.2.2.2.2.2.2.2.2.2.1 sb.2.2.2.2.2.2.2.2.2.1 b.2.2.2.2.2.2.2.2.2.2.1 sb.2.2.2.2.2.2.2.2.2.2.1 b.2.2.2.2.2.2.2.2.2.2.2 sb.2.2.2.2.2.2.2.2.2.2.2 (nI ch)) (fun o => Ok (g_X12_restore isv (nI ch) th sv s svF f) (fun o' => AN ans o.1 o.2.1 o'.1 o'.2.2.1 ∧ BR LS SE (o.2.2.1, o.2.2.2.1, o.2.2.2.2.1, o.2.2.2.2.2.1, o.2.2.2.2.2.2.1, o.2.2.2.2.2.2.2.1, o.2.2.2.2.2.2.2.2.1, o.2.2.2.2.2.2.2.2.2.1, o.2.2.2.2.2.2.2.2.2.2.1, o.2.2.2.2.2.2.2.2.2.2.2.1, o.2.2.2.2.2.2.2.2.2.2.2.2.1, o.2.2.2.2.2.2.2.2.2.2.2.2.2.1) o'.2.2.2.1 o'.2.2.2.2 ∧ NI LS SE RA nx (nI nx) o.2.2.2.2.2.2.2.2.2.2.2.2.2.2 o'.2.1 past pastF)) := by
  have hgc : inb 0 n4 = true := decide_eq_true ⟨by decide, by show (0 : Int) < n4; omega⟩
  unfold g_L_restore g_X11_restore g_X12_restore
  rcases hV with hv | ⟨hv, hV⟩
  · subst hv
    refine bt rfl (bs (ok_f (show ¬ (5 : Int32) = 0 by decide) (ok_t rfl (ok_s ?_))))
    refine ok_t rfl ?_
    unfold g_X12_restore_b13
    exact ok_f (by decide) (ok_s ⟨AN_n rfl rfl, hB, ⟨nx, ch, rfl, rfl, rfl, hH, Or.inl rfl⟩⟩)
  · subst hv
    obtain ⟨htx, hbo⟩ := BR_tx hV
    obtain ⟨nc, ns, X, g1, g2, g3, g4, g5, g6, g7, g8, g9, g10, g11⟩ := id hV
    refine bf (by decide) (ba (ok_b (k_X0_copy (LS := LS) (SE := SE) htx hbo b) (fun r hr => bbe (show g_X4_forget (nI ch) = some 0 from rfl) (bs (ok_t rfl (ok_c hgc (ok_s ?_)))))))
    refine ok_f (by decide) ?_
    unfold g_X12_restore_b13
    refine ok_t (by decide) (ok_c rfl (ok_c rfl (ok_c rfl (ok_l (ok_s ⟨AN_y ?_ rfl, BR_ag' hV hr (AG_cpy _ _ _) (AG_cpy _ _ _), ⟨nx, 0, rfl, rfl, rfl, ⟨hH.1, Nat.zero_le _, fun i hi => absurd hi (Nat.not_lt_zero i)⟩, Or.inl rfl⟩⟩)))))
    have := cpy_in (f := sv) (g := s) (n := 282) (k := 1) (by omega)
    exact this.trans (g6.trans (g4.symm.trans hr.2.1.symm))
theorem k_in_char : g_X12_in p1.toInt64 32 126 = some (if ¬ p1 < 32 ∧ p1 ≤ 126 then 1 else 0) := by
  have := k_in_32 p1 32 126
  exact this
theorem op_append {inp mt : Nat → Int32} (hT : TXR le inp mt) (hn : 0 < n4) (hn9 : n4 < 2147483648) :
    Ok (g_L_append n4 le ans inp p1) (fun o => Ok (g_X12_append th le mt p1) (fun o' => AN ans o.1 o.2.2.1 o'.1 o'.2.1 ∧ TXR o.2.1 o.2.2.2 o'.2.2.2 ∧ o.2.1 = o'.2.2.1)) := by
  have hgc : inb 0 n4 = true := decide_eq_true ⟨by decide, by show (0 : Int) < n4; omega⟩
  unfold g_L_append g_X11_append g_X12_append
  have hi := k_in_char (p1 := p1)
  have bad : ¬ (¬ p1 < 32 ∧ p1 ≤ 126) → Ok (gb (g_X12_in p1.toInt64 (32 : Int64) (126 : Int64)) fun r1 => if r1 = 0 then g_X12_append_b33 le mt p1 1 else if le = 60 then g_X12_append_b33 le mt p1 2 else g_X12_append_b33 le mt p1 0) (fun o' => AN ans 1 ans o'.1 o'.2.1 ∧ TXR le inp o'.2.2.2 ∧ le = o'.2.2.1) := by
    intro hbad
    rw [if_neg hbad] at hi
    refine ok_be hi (ok_t rfl ?_)
    unfold g_X12_append_b33
    exact ok_f (by decide) (ok_s ⟨AN_n rfl rfl, hT, rfl⟩)
  by_cases g1 : p1 < 32
  · unfold g_X11_append_b12
    exact bt g1 (bs (ok_f (show ¬ (1 : Int32) = 0 by decide) (ok_t rfl (ok_s (bad (fun z => z.1 g1))))))
  by_cases g2 : p1 ≤ 126
  · rw [if_pos ⟨g1, g2⟩] at hi
    obtain ⟨m, x, hm, hle, hx⟩ := id hT
    subst hle
    by_cases g3 : m = 60
    · subst g3
      refine bf g1 (bt g2 (bf (by decide) (bs (ok_f (show ¬ (5 : Int32) = 0 by decide) (ok_f (show ¬ (5 : Int32) = 1 by decide) (ok_t rfl (ok_s ?_)))))))
      refine ok_be hi (ok_f (by decide) (ok_t rfl ?_))
      unfold g_X12_append_b33
      exact ok_f (by decide) (ok_s ⟨AN_n rfl rfl, hT, rfl⟩)
    · have hne : ¬ nI m = 60 := fun z => g3 (nI_inj (by omega) (by omega) (show nI m = nI 60 from z))
      have hin : inb (nI m) 60 = true := x_inb (by omega) (by omega)
      refine bf g1 (bt g2 (bt (show nI m < 60 from nI_lt (b := 60) (by omega) (by omega)) (bc hin (bl (bs (ok_t rfl (ok_c hgc (ok_s ?_))))))))
      refine ok_be hi (ok_f (by decide) (ok_f hne ?_))
      unfold g_X12_append_b33
      rw [Int32.lt_iff_toInt_lt] at g1
      rw [Int32.le_iff_toInt_le] at g2
      have q1 : (32 : Int32).toInt = 32 := rfl
      have q2 : (126 : Int32).toInt = 126 := rfl
      have hp : p1 = nI p1.toInt.toNat := toI_of (by omega) (by omega)
      have hc : vp_nar .char p1 = nI p1.toInt.toNat := by
        have := x_nc (n := p1.toInt.toNat) (by omega)
        rw [← hp] at this
        exact this.trans hp
      have hT2 : TXR (nI m + 1) (upd inp m (vp_nar .char p1)) (upd mt m (vp_nar .char p1)) := by
        refine ⟨m + 1, va_up x m p1.toInt.toNat, by omega, nI_1 m, fun j hj => ?_⟩
        by_cases e : j = m
        · rw [e, x_us, x_us, x_as]
          exact ⟨hc, hc, by omega⟩
        · rw [x_un e, x_un e, x_an e]
          exact hx j (by omega)
      refine ok_t (by decide) (ok_c hin (ok_l (ok_s ?_)))
      rw [x_cl (a := m) (by omega)]
      exact ⟨AN_y rfl rfl, hT2, rfl⟩
  · unfold g_X11_append_b12
    exact bf g1 (bf g2 (bs (ok_f (show ¬ (1 : Int32) = 0 by decide) (ok_t rfl (ok_s (bad (fun z => g2 z.2)))))))
end UNDO
