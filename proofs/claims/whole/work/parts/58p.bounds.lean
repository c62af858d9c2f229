/-! THE CALL bounds -/
section BOUNDS
variable {LS : List Nat} {SE : Nat → SV} {RA : Nat → BK} {nx ch n4 a : Nat} {b sb : BK} {past be s rf sv : Nat → Int32} {pastF beF f svF : Nat → UInt32} {kp rs de hc ca cd th p1 p2 p3 bd le ke isv : Int32} {ans : Nat → Int64} {bks : Nat → Option Nat}
theorem k_in_32 (v x y : Int32) : g_X12_in v.toInt64 x.toInt64 y.toInt64 = some (if ¬ v < x ∧ v ≤ y then 1 else 0) := by
  have e : (¬ v.toInt64 < x.toInt64 ∧ ¬ y.toInt64 < v.toInt64) ↔ (¬ v < x ∧ v ≤ y) := by
    rw [Int64.lt_iff_toInt_lt, Int64.lt_iff_toInt_lt, Int32.lt_iff_toInt_lt, Int32.le_iff_toInt_le, Int32.toInt_toInt64, Int32.toInt_toInt64, Int32.toInt_toInt64]
    omega
  rw [k_X12_in]
  by_cases h : ¬ v < x ∧ v ≤ y
  · rw [if_pos h, if_pos (e.mpr h)]
  · rw [if_neg h, if_neg (fun z => h (e.mp z))]
set_option maxHeartbeats 4000000 in
theorem op_bounds {c_typing_faultAt : Int32} {c_typing_stores : Int32} {c_typing_spoons : Int32} {c_typing_isBroth : Nat → Int32} {c_typing_low : Nat → Int64} {c_typing_high : Nat → Int64} {c_typing_storeIsBroth : Nat → Int32} {c_typing_storeLow : Nat → Int64} {c_typing_storeHigh : Nat → Int64} {m_tokens : Int32} {m_spoons : Int32} {m_mostSpoons : Int32} {m_storeMany : Int32} {m_numbers : Nat → Int32} {m_signs : Nat → Int32} {m_lowOn : Nat → Int64} {m_highOn : Nat → Int64} {m_isBrothOn : Nat → Int32} {m_lowStored : Nat → Int64} {m_highStored : Nat → Int64} {m_isBrothStored : Nat → Int32} (hB : BR LS SE b s f) (hH : HA LS SE RA nx ch past pastF) (hq : bks nx = some a) (hR : RFR kp rs de hc ca cd rf) (hn : 0 < n4) (hn9 : n4 < 2147483648) :
    Ok (g_L_bounds LS SE n4 ans b.1 b.2.1 b.2.2.1 b.2.2.2.1 b.2.2.2.2.2.2.1 kp rs de hc b.2.2.2.2.1 (nI nx) (nI ch) bks (RA nx).1 (RA nx).2.1 (RA nx).2.2.1 (RA nx).2.2.2.1 (RA nx).2.2.2.2.1 (RA nx).2.2.2.2.2.1 b.2.2.2.2.2.1 (RA nx).2.2.2.2.2.2.1 (RA nx).2.2.2.2.2.2.2.1 b.2.2.2.2.2.2.2.1 (RA nx).2.2.2.2.2.2.2.2.1 b.2.2.2.2.2.2.2.2.1 (RA nx).2.2.2.2.2.2.2.2.2.1 b.2.2.2.2.2.2.2.2.2.1 (RA nx).2.2.2.2.2.2.2.2.2.2.1 b.2.2.2.2.2.2.2.2.2.2.1 (RA nx).2.2.2.2.2.2.2.2.2.2.2 b.2.2.2.2.2.2.2.2.2.2.2 c_typing_faultAt c_typing_stores c_typing_spoons c_typing_isBroth c_typing_low c_typing_high c_typing_storeIsBroth c_typing_storeLow c_typing_storeHigh p1 p2 p3 a) (fun o => Ok (g_X12_bounds (nI ch) th m_tokens m_spoons m_mostSpoons m_storeMany s be f beF m_numbers m_signs m_lowOn m_highOn m_isBrothOn m_lowStored m_highStored m_isBrothStored rf past pastF p1 p2 p3) (fun o' => AN ans o.1 o.2.1 o'.1 o'.2.2.1 ∧ BR LS SE (b.1, b.2.1, b.2.2.1, b.2.2.2.1, b.2.2.2.2.1, b.2.2.2.2.2.1, b.2.2.2.2.2.2.1, o.2.2.2.2.2.2.2.2.2.2.2.2.2.2.2.2.1, o.2.2.2.2.2.2.2.2.2.2.2.2.2.2.2.2.2.2.1, b.2.2.2.2.2.2.2.2.2.1, b.2.2.2.2.2.2.2.2.2.2.1, b.2.2.2.2.2.2.2.2.2.2.2) o'.2.2.2.2.2.2.2.1 o'.2.2.2.2.2.2.2.2.2.1 ∧ NH LS SE RA nx (o.2.2.2.2.2.2.2.2.1, o.2.2.2.2.2.2.2.2.2.1, o.2.2.2.2.2.2.2.2.2.2.1, o.2.2.2.2.2.2.2.2.2.2.2.1, o.2.2.2.2.2.2.2.2.2.2.2.2.1, o.2.2.2.2.2.2.2.2.2.2.2.2.2.1, o.2.2.2.2.2.2.2.2.2.2.2.2.2.2.1, o.2.2.2.2.2.2.2.2.2.2.2.2.2.2.2.1, o.2.2.2.2.2.2.2.2.2.2.2.2.2.2.2.2.2.1, o.2.2.2.2.2.2.2.2.2.2.2.2.2.2.2.2.2.2.2.1, o.2.2.2.2.2.2.2.2.2.2.2.2.2.2.2.2.2.2.2.2.1, o.2.2.2.2.2.2.2.2.2.2.2.2.2.2.2.2.2.2.2.2.2.1) o.2.2.2.2.2.2.1 o.2.2.2.2.2.2.2.1 o'.2.1 o'.2.2.2.2.2.2.2.2.2.2.2.2.2.2.2.2.2.2.2.2.1 o'.2.2.2.2.2.2.2.2.2.2.2.2.2.2.2.2.2.2.2.2.2 ∧ RFR o.2.2.1 o.2.2.2.1 o.2.2.2.2.1 o.2.2.2.2.2.1 ca cd o'.2.2.2.2.2.2.2.2.2.2.2.2.2.2.2.2.2.2.2.1)) := by
  have hgc : inb 0 n4 = true := decide_eq_true ⟨by decide, by show (0 : Int) < n4; omega⟩
  obtain ⟨nc, ns, X, hBx⟩ := id hB
  obtain ⟨h6, h4, e1, e2, h0, h1, h2, h3, hX, hS, hT⟩ := id hBx
  obtain ⟨htx, hbo⟩ := BR_tx hB
  unfold g_L_bounds g_X11_bounds
  obtain ⟨ka1, ka2⟩ := k_areBounds p2 p3
  rcases idx p1 nc (by omega) with ⟨c, hc', rfl⟩ | ho
  · have hc6 : c < 6 := by omega
    obtain ⟨⟨a1, a2, a3, a4⟩, l1, l2, l3, l4⟩ := hX c hc6
    obtain ⟨s1, s2, s3, s4, s5, s6⟩ := hS c hc6
    have hin : inb (nI c) 6 = true := x_inb hc6 (by omega)
    have hcl : (nI c).toNatClampNeg = c := x_cl (by omega)
    have nC : g_X11_needCauldron b.1 (nI c) = some 0 := by rw [e1]; exact k_needCauldron_in hc' h6
    have isC := k_X12_isCauldron_in h0 hc' h6
    have hbr : g_X12_isBroth s (nI c) = some (b.2.2.2.2.2.2.1 c) := by rw [← s1]; exact k_X12_isBroth hc6 (by rw [s1]; exact a1)
    have hof : g_X12_of s (nI c) 3 = some (b.2.2.2.2.1 c) := by rw [← s4]; exact k_X12_of (j := 3) hc6 (by omega)
    rcases k_needBounds p2 p3 with ⟨hb, hnb⟩ | ⟨hb, hnb⟩
    · by_cases hk : b.2.2.2.2.2.2.1 c = 0
      · have nD := k_needDrams (kp := kp) (rs := rs) (de := de) (hc9 := hc) (kd := b.2.2.2.2.2.2.1) hc6
        rw [if_pos hk] at nD
        have hin5 := k_in_32 (b.2.2.2.2.1 c) p2 p3
        have bad : ¬ (¬ b.2.2.2.2.1 c < p2 ∧ b.2.2.2.2.1 c ≤ p3) → Ok (g_X12_bounds (nI ch) th m_tokens m_spoons m_mostSpoons m_storeMany s be f beF m_numbers m_signs m_lowOn m_highOn m_isBrothOn m_lowStored m_highStored m_isBrothStored rf past pastF (nI c) p2 p3) (fun o' => AN ans 3 ans o'.1 o'.2.2.1 ∧ BR LS SE b o'.2.2.2.2.2.2.2.1 o'.2.2.2.2.2.2.2.2.2.1 ∧ NH LS SE RA nx (RA nx) (nI nx) (nI ch) o'.2.1 o'.2.2.2.2.2.2.2.2.2.2.2.2.2.2.2.2.2.2.2.2.1 o'.2.2.2.2.2.2.2.2.2.2.2.2.2.2.2.2.2.2.2.2.2 ∧ RFR 1 3 (b.2.2.2.2.1 c) 0 ca cd o'.2.2.2.2.2.2.2.2.2.2.2.2.2.2.2.2.2.2.2.1) := by
          intro hbad
          rw [if_neg hbad] at hin5
          unfold g_X12_bounds
          refine ok_be (k_X12_keep th s be f beF) ?_
          unfold g_X12_doBounds
          exact bbe isC (bf (by decide) (bbe (ka1 hb) (bf (by decide) (bbe hbr (bt hk (bbe hof (bbe hin5 (bt rfl (bbe hof (bbe (k_X12_refuse _ _ _ _ _) (bs (ok_be (k_X12_endsF (show ¬ (3 : Int32) ≤ 0 by decide)) (ok_s ⟨AN_n rfl rfl, BR_back hB, NH_self hH, RFR_keep (hc := 0) (show (3 : Int32) ≠ 0 by decide)⟩)))))))))))))
        by_cases g1 : b.2.2.2.2.1 c < p2
        · unfold g_X11_bounds_b42
          exact bbe nC (bt rfl (bbe hnb (bt rfl (bbe nD (bt rfl (bc hin (bl (bt (by rw [hcl]; exact g1) (bbe (show g_X7_keep kp rs de hc 3 (b.2.2.2.2.1 (nI c).toNatClampNeg) = some (1, 3, b.2.2.2.2.1 (nI c).toNatClampNeg, 0) from rfl) (bs (ok_f (show ¬ (4 : Int32) = 0 by decide) (ok_f (show ¬ (4 : Int32) = 1 by decide) (ok_f (show ¬ (4 : Int32) = 2 by decide) (ok_t rfl (ok_s (by rw [hcl]; exact bad (fun z => z.1 g1)))))))))))))))))
        by_cases g2 : b.2.2.2.2.1 c ≤ p3
        · rw [if_pos ⟨g1, g2⟩] at hin5
          have hnew : BRx LS SE nc ns X (b.1, b.2.1, b.2.2.1, b.2.2.2.1, b.2.2.2.2.1, b.2.2.2.2.2.1, b.2.2.2.2.2.2.1, upd b.2.2.2.2.2.2.2.1 c p2, upd b.2.2.2.2.2.2.2.2.1 c p3, b.2.2.2.2.2.2.2.2.2.1, b.2.2.2.2.2.2.2.2.2.2.1, b.2.2.2.2.2.2.2.2.2.2.2) (upd (upd s (4 + 5 * c + 1) p2) (4 + 5 * c + 2) p3) f := by
            refine BR_one (c := c) hBx hc6 (fun d hd => ⟨rfl, rfl, x_un hd, x_un hd, rfl⟩) (fun j h1 h2 _ => by rw [x_un h2, x_un h1]) ?_ ?_ ?_ s6 ⟨⟨a1, a2, a3, a4⟩, ?_, ?_, ?_, fun _ => ?_⟩
            · rw [x_un (by omega), x_us, x_us]
            · rw [x_us, x_us]
            · rw [x_un (by omega), x_un (by omega)]; exact s4
            · rw [x_us]; exact hb.1
            · rw [x_us]; exact hb.2.2
            · rw [x_us, x_us]; exact hb.2.1
            · rw [x_us, x_us]
              rw [Int32.lt_iff_toInt_lt] at g1
              rw [Int32.le_iff_toInt_le] at g2
              omega
          obtain ⟨-, -, -, -, -, h1', -, -, hX', hS', hT'⟩ := id hnew
          have hXi : ∀ i, i < ns → OKT nc (X i) ∧ SPM s i (X i) := fun i hi => ⟨(hT.1 i hi).2.1, (hT.1 i hi).2.2.1⟩
          have hXi' : ∀ i, i < ns → OKT nc (X i) ∧ SPM (upd (upd s (4 + 5 * c + 1) p2) (4 + 5 * c + 2) p3) i (X i) := fun i hi => ⟨(hT'.1 i hi).2.1, (hT'.1 i hi).2.2.1⟩
          refine bbe nC (bt rfl (bbe hnb (bt rfl (bbe nD (bt rfl (bc hin (bl (bf (by rw [hcl]; exact g1) (bt (by rw [hcl]; exact g2) (ba (ok_b (k_X4_remember (LS := LS) (SE := SE) htx hbo (RA nx) hH.1 hH.2.1 hq) (fun r hr => ?_))))))))))))
          refine ba (ok_b (by rw [e2]; exact k_countTyped h6 h4 hbo hT _ _ _ _ _ _ _ _ _) (fun r6 hr6 => bc hin (bc hin ?_)))
          rw [hcl]
          refine ba (ok_b (by rw [e2]; exact k_countTyped h6 h4 hbo hT' _ _ _ _ _ _ _ _ _) (fun r7 hr7 => bl (bs (ok_t rfl (ok_c hgc (ok_s ?_))))))
          rw [hr.1, hr.2.1]
          unfold g_X12_bounds
          refine ok_be (k_X12_keep th s be f beF) ?_
          unfold g_X12_doBounds
          refine bbe isC (bf (by decide) (bbe (ka1 hb) (bf (by decide) (bbe hbr (bt hk (bbe hof (bbe hin5 (bf (by decide) (ba (ok_b (k_typedMany h4 hbo h1 (CS_SB hS) hXi m_tokens m_spoons m_mostSpoons m_storeMany m_numbers m_signs m_isBrothOn m_isBrothStored m_lowOn m_highOn m_lowStored m_highStored) (fun v6 hv6 => ?_)))))))))))
          refine bbe (k_X12_sets (s := s) (j := 1) hc6 (by omega) p2) (bbe (k_X12_sets (s := upd s (4 + 5 * c + 1) p2) (j := 2) hc6 (by omega) p3) (ba (ok_b (k_typedMany h4 hbo h1' (CS_SB hS') hXi' _ _ _ _ _ _ _ _ _ _ _ _) (fun v9 hv9 => bl (bs ?_)))))
          obtain ⟨past', pastF', hE1, hE2⟩ := HA_push (s := upd (upd s (4 + 5 * c + 1) p2) (4 + 5 * c + 2) p3) (f := f) hH (BR_keep (be := be) (beF := beF) hB) hr.2.2 (v9.1 - v6.1)
          exact ok_be hE1 (ok_s ⟨AN_y (by rw [hv9, hv6, hr6, hr7]) rfl, ⟨nc, ns, X, hnew⟩, ⟨_, _, rfl, rfl, rfl, hE2, Or.inr rfl⟩, hR⟩)
        · unfold g_X11_bounds_b42
          exact bbe nC (bt rfl (bbe hnb (bt rfl (bbe nD (bt rfl (bc hin (bl (bf (by rw [hcl]; exact g1) (bf (by rw [hcl]; exact g2) (bbe (show g_X7_keep kp rs de hc 3 (b.2.2.2.2.1 (nI c).toNatClampNeg) = some (1, 3, b.2.2.2.2.1 (nI c).toNatClampNeg, 0) from rfl) (bs (ok_f (show ¬ (4 : Int32) = 0 by decide) (ok_f (show ¬ (4 : Int32) = 1 by decide) (ok_f (show ¬ (4 : Int32) = 2 by decide) (ok_t rfl (ok_s (by rw [hcl]; exact bad (fun z => g2 z.2))))))))))))))))))
      · have nD := k_needDrams (kp := kp) (rs := rs) (de := de) (hc9 := hc) (kd := b.2.2.2.2.2.2.1) hc6
        rw [if_neg hk] at nD
        refine bbe nC (bt rfl (bbe hnb (bt rfl (bbe nD (bf (show ¬ (4 : Int32) = 0 by decide) (bs (ok_f (show ¬ (4 : Int32) = 0 by decide) (ok_f (show ¬ (4 : Int32) = 1 by decide) (ok_f (show ¬ (4 : Int32) = 2 by decide) (ok_t rfl (ok_s ?_)))))))))))
        unfold g_X12_bounds
        refine ok_be (k_X12_keep th s be f beF) ?_
        unfold g_X12_doBounds
        exact bbe isC (bf (by decide) (bbe (ka1 hb) (bf (by decide) (bbe hbr (bf hk (bbe (k_X12_refuse _ _ _ _ _) (bs (ok_be (k_X12_endsF (show ¬ (3 : Int32) ≤ 0 by decide)) (ok_s ⟨AN_n rfl rfl, BR_back hB, NH_self hH, RFR_keep (hc := 0) (show (2 : Int32) ≠ 0 by decide)⟩)))))))))
    · refine bbe nC (bt rfl (bbe hnb (bf (by decide) (bs (ok_f (show ¬ (1 : Int32) = 0 by decide) (ok_t rfl (ok_s ?_)))))))
      unfold g_X12_bounds
      refine ok_be (k_X12_keep th s be f beF) ?_
      unfold g_X12_doBounds
      exact bbe isC (bf (by decide) (bbe (ka2 hb) (bt rfl (bbe (show g_X12_fails _ 2 = some (0, 2) from rfl) (bs (ok_be (k_X12_endsF (show ¬ (2 : Int32) ≤ 0 by decide)) (ok_s ⟨AN_n rfl rfl, BR_back hB, NH_self hH, hR⟩)))))))
  · have nC : g_X11_needCauldron b.1 p1 = some 2 := by rw [e1]; exact k_needCauldron_out ho
    refine bbe nC (bf (by decide) (bs (ok_f (show ¬ (2 : Int32) = 0 by decide) (ok_f (show ¬ (2 : Int32) = 1 by decide) (ok_t rfl (ok_s ?_))))))
    unfold g_X12_bounds
    refine ok_be (k_X12_keep th s be f beF) ?_
    unfold g_X12_doBounds
    exact bbe (k_X12_isCauldron_out h0 ho h6) (bt rfl (bbe (show g_X12_fails _ 1 = some (0, 1) from rfl) (bs (ok_be (k_X12_endsF (show ¬ (1 : Int32) ≤ 0 by decide)) (ok_s ⟨AN_n rfl rfl, BR_back hB, NH_self hH, hR⟩)))))
end BOUNDS
