/-! THE CALLS pour, ladle -/
section POUR
variable {LS : List Nat} {SE : Nat → SV} {RA : Nat → BK} {nx ch n4 a : Nat} {b sb : BK} {past be s rf sv : Nat → Int32} {pastF beF f svF : Nat → UInt32} {kp rs de hc ca cd th p1 p2 p3 bd le ke isv : Int32} {ans : Nat → Int64} {bks : Nat → Option Nat}
theorem op_pour (hB : BR LS SE b s f) (hH : HA LS SE RA nx ch past pastF) (hq : bks nx = some a) (hR : RFR kp rs de hc ca cd rf) (hn : 0 < n4) (hn9 : n4 < 2147483648) :
    Ok (g_L_pour LS SE n4 ans b.1 b.2.1 b.2.2.1 b.2.2.2.1 b.2.2.2.2.2.2.1 kp rs de hc b.2.2.2.2.2.2.2.1 b.2.2.2.2.2.2.2.2.1 (nI nx) (nI ch) bks (RA nx).1 (RA nx).2.1 (RA nx).2.2.1 (RA nx).2.2.2.1 (RA nx).2.2.2.2.1 b.2.2.2.2.1 (RA nx).2.2.2.2.2.1 b.2.2.2.2.2.1 (RA nx).2.2.2.2.2.2.1 (RA nx).2.2.2.2.2.2.2.1 (RA nx).2.2.2.2.2.2.2.2.1 (RA nx).2.2.2.2.2.2.2.2.2.1 b.2.2.2.2.2.2.2.2.2.1 (RA nx).2.2.2.2.2.2.2.2.2.2.1 b.2.2.2.2.2.2.2.2.2.2.1 (RA nx).2.2.2.2.2.2.2.2.2.2.2 b.2.2.2.2.2.2.2.2.2.2.2 p1 p2 a) (fun o => Ok (g_X12_pour (nI ch) th s be f beF rf past pastF p1 p2) (fun o' => AN ans o.1 o.2.1 o'.1 o'.2.2.1 ∧ BR LS SE (b.1, b.2.1, b.2.2.1, b.2.2.2.1, o.2.2.2.2.2.2.2.2.2.2.2.2.2.1, b.2.2.2.2.2.1, b.2.2.2.2.2.2.1, b.2.2.2.2.2.2.2.1, b.2.2.2.2.2.2.2.2.1, b.2.2.2.2.2.2.2.2.2.1, b.2.2.2.2.2.2.2.2.2.2.1, b.2.2.2.2.2.2.2.2.2.2.2) o'.2.2.2.1 o'.2.2.2.2.2.1 ∧ NH LS SE RA nx (o.2.2.2.2.2.2.2.2.1, o.2.2.2.2.2.2.2.2.2.1, o.2.2.2.2.2.2.2.2.2.2.1, o.2.2.2.2.2.2.2.2.2.2.2.1, o.2.2.2.2.2.2.2.2.2.2.2.2.1, o.2.2.2.2.2.2.2.2.2.2.2.2.2.2.1, o.2.2.2.2.2.2.2.2.2.2.2.2.2.2.2.1, o.2.2.2.2.2.2.2.2.2.2.2.2.2.2.2.2.1, o.2.2.2.2.2.2.2.2.2.2.2.2.2.2.2.2.2.1, o.2.2.2.2.2.2.2.2.2.2.2.2.2.2.2.2.2.2.1, o.2.2.2.2.2.2.2.2.2.2.2.2.2.2.2.2.2.2.2.1, o.2.2.2.2.2.2.2.2.2.2.2.2.2.2.2.2.2.2.2.2) o.2.2.2.2.2.2.1 o.2.2.2.2.2.2.2.1 o'.2.1 o'.2.2.2.2.2.2.2.2.1 o'.2.2.2.2.2.2.2.2.2 ∧ RFR o.2.2.1 o.2.2.2.1 o.2.2.2.2.1 o.2.2.2.2.2.1 ca cd o'.2.2.2.2.2.2.2.1)) := by
  have hgc : inb 0 n4 = true := decide_eq_true ⟨by decide, by show (0 : Int) < n4; omega⟩
  obtain ⟨nc, ns, X, hBx⟩ := id hB
  obtain ⟨h6, h4, e1, e2, h0, h1, h2, h3, hX, hS, hT⟩ := id hBx
  obtain ⟨htx, hbo⟩ := BR_tx hB
  unfold g_L_pour g_X11_pour
  rcases idx p1 nc (by omega) with ⟨c, hc', rfl⟩ | ho
  · have hc6 : c < 6 := by omega
    obtain ⟨⟨a1, a2, a3, a4⟩, l1, l2, l3, l4⟩ := hX c hc6
    obtain ⟨s1, s2, s3, s4, s5, s6⟩ := hS c hc6
    have hin : inb (nI c) 6 = true := x_inb hc6 (by omega)
    have hcl : (nI c).toNatClampNeg = c := x_cl (by omega)
    have nC : g_X11_needCauldron b.1 (nI c) = some 0 := by rw [e1]; exact k_needCauldron_in hc' h6
    have isC := k_X12_isCauldron_in h0 hc' h6
    have hbr : g_X12_isBroth s (nI c) = some (b.2.2.2.2.2.2.1 c) := by rw [← s1]; exact k_X12_isBroth hc6 (by rw [s1]; exact a1)
    have hof : g_X12_of s (nI c) 3 = some (b.2.2.2.2.1 c) := by rw [← s4]; exact k_X12_of (j := 3) hc6 (by omega)
    by_cases hk : b.2.2.2.2.2.2.1 c = 0
    · have nD := k_needDrams (kp := kp) (rs := rs) (de := de) (hc9 := hc) (kd := b.2.2.2.2.2.2.1) hc6
      rw [if_pos hk] at nD
      have hold := k_X0_holds (lo := b.2.2.2.2.2.2.2.1) (hi := b.2.2.2.2.2.2.2.2.1) hc6 p2.toInt64
      have hold2 := kM_holds (CS_SB hS) hc6 p2.toInt64
      by_cases hh : HL b.2.2.2.2.2.2.2.1 b.2.2.2.2.2.2.2.2.1 c p2.toInt64 = true
      · rw [if_pos hh] at hold hold2
        have hb2 := HL_i.mp hh
        rw [Int32.toInt_toInt64] at hb2
        refine bbe nC (bt rfl (bbe nD (bt rfl (bbe hold (bf (by decide) (ba (ok_b (k_X4_remember (LS := LS) (SE := SE) htx hbo (RA nx) hH.1 hH.2.1 hq) (fun r hr => bc hin (bl (bc hin (bs (ok_t rfl (ok_c hgc (ok_s ?_))))))))))))))
        rw [hcl, hr.1, hr.2.1]
        have dO : g_X12_doPour 0 s rf (nI c) p2 = some (b.2.2.2.2.1 c, 0, upd s (4 + 5 * c + 3) p2, rf) := by
          unfold g_X12_doPour
          rw [isC, e_gbS, if_neg (by decide), hbr, e_gbS, if_pos hk, hold2, e_gbS, if_neg (by decide), hof, e_gbS, show (3 : Int32) = nI 3 from rfl, k_X12_sets (j := 3) hc6 (by omega), e_gbS]
        have hnew : BRx LS SE nc ns X (b.1, b.2.1, b.2.2.1, b.2.2.2.1, upd b.2.2.2.2.1 c p2, b.2.2.2.2.2.1, b.2.2.2.2.2.2.1, b.2.2.2.2.2.2.2.1, b.2.2.2.2.2.2.2.2.1, b.2.2.2.2.2.2.2.2.2.1, b.2.2.2.2.2.2.2.2.2.2.1, b.2.2.2.2.2.2.2.2.2.2.2) (upd s (4 + 5 * c + 3) p2) f := by
          refine BR_one (c := c) hBx hc6 (fun d hd => ⟨x_un hd, rfl, rfl, rfl, rfl⟩) (fun j _ _ h3 => x_un h3) ?_ ?_ ?_ s6 ⟨⟨a1, a2, fun z => absurd hk z, a4⟩, l1, l2, l3, fun _ => ?_⟩
          · rw [x_un (by omega)]; exact s2
          · rw [x_un (by omega)]; exact s3
          · rw [x_us, x_us]
          · rw [x_us]; exact hb2
        obtain ⟨past', pastF', hE1, hE2⟩ := HA_push (s := upd s (4 + 5 * c + 3) p2) (f := f) hH (BR_keep (be := be) (beF := beF) hB) hr.2.2 (b.2.2.2.2.1 c)
        unfold g_X12_pour
        exact ok_be (k_X12_keep th s be f beF) (ok_be dO (ok_be hE1 (ok_s ⟨AN_y rfl rfl, ⟨nc, ns, X, hnew⟩, ⟨_, _, rfl, rfl, rfl, hE2, Or.inr rfl⟩, hR⟩)))
      · rw [if_neg hh] at hold hold2
        refine bbe nC (bt rfl (bbe nD (bt rfl (bbe hold (bt rfl (bbe (show g_X7_keep kp rs de hc 3 p2 = some (1, 3, p2, 0) from rfl) (bs (ok_f (show ¬ (4 : Int32) = 0 by decide) (ok_f (show ¬ (4 : Int32) = 2 by decide) (ok_t rfl (ok_s ?_)))))))))))
        have dO : g_X12_doPour 0 s rf (nI c) p2 = some (0, 2, s, upd (upd (upd (upd rf 0 3) 1 p2) 2 0) 3 0) := by
          unfold g_X12_doPour
          rw [isC, e_gbS, if_neg (by decide), hbr, e_gbS, if_pos hk, hold2, e_gbS, if_pos (show (0 : Int32) = 0 from rfl)]; rfl
        unfold g_X12_pour
        exact ok_be (k_X12_keep th s be f beF) (ok_be dO (ok_be (k_X12_endsF (show ¬ (2 : Int32) ≤ 0 by decide)) (ok_s ⟨AN_n rfl rfl, BR_back hB, NH_self hH, RFR_keep (hc := 0) (show (3 : Int32) ≠ 0 by decide)⟩)))
    · have nD := k_needDrams (kp := kp) (rs := rs) (de := de) (hc9 := hc) (kd := b.2.2.2.2.2.2.1) hc6
      rw [if_neg hk] at nD
      refine bbe nC (bt rfl (bbe nD (bf (show ¬ (4 : Int32) = 0 by decide) (bs (ok_f (show ¬ (4 : Int32) = 0 by decide) (ok_f (show ¬ (4 : Int32) = 2 by decide) (ok_t rfl (ok_s ?_))))))))
      have dO : g_X12_doPour 0 s rf (nI c) p2 = some (0, 2, s, upd (upd (upd (upd rf 0 2) 1 (nI c)) 2 0) 3 0) := by
        unfold g_X12_doPour
        rw [isC, e_gbS, if_neg (by decide), hbr, e_gbS, if_neg hk]; rfl
      unfold g_X12_pour
      exact ok_be (k_X12_keep th s be f beF) (ok_be dO (ok_be (k_X12_endsF (show ¬ (2 : Int32) ≤ 0 by decide)) (ok_s ⟨AN_n rfl rfl, BR_back hB, NH_self hH, RFR_keep (hc := 0) (show (2 : Int32) ≠ 0 by decide)⟩)))
  · have nC : g_X11_needCauldron b.1 p1 = some 2 := by rw [e1]; exact k_needCauldron_out ho
    refine bbe nC (bf (by decide) (bs (ok_f (show ¬ (2 : Int32) = 0 by decide) (ok_t rfl (ok_s ?_)))))
    have dO : g_X12_doPour 0 s rf p1 p2 = some (0, 1, s, rf) := by
      unfold g_X12_doPour
      rw [k_X12_isCauldron_out h0 ho h6, e_gbS, if_pos (show nI 0 = 0 from rfl)]; rfl
    unfold g_X12_pour
    exact ok_be (k_X12_keep th s be f beF) (ok_be dO (ok_be (k_X12_endsF (show ¬ (1 : Int32) ≤ 0 by decide)) (ok_s ⟨AN_n rfl rfl, BR_back hB, NH_self hH, hR⟩)))
theorem k_in_9999 : g_X12_in p2.toInt64 (-9999) 9999 = some (if ¬ p2 < -9999 ∧ p2 ≤ 9999 then 1 else 0) := by
  have e : (¬ p2.toInt64 < -9999 ∧ ¬ (9999 : Int64) < p2.toInt64) ↔ (¬ p2 < -9999 ∧ p2 ≤ 9999) := by
    rw [Int64.lt_iff_toInt_lt, Int64.lt_iff_toInt_lt, Int32.lt_iff_toInt_lt, Int32.le_iff_toInt_le, Int32.toInt_toInt64]
    have q1 : (-9999 : Int64).toInt = -9999 := rfl
    have q2 : (9999 : Int64).toInt = 9999 := rfl
    have q3 : (-9999 : Int32).toInt = -9999 := rfl
    have q4 : (9999 : Int32).toInt = 9999 := rfl
    omega
  rw [k_X12_in]
  by_cases h : ¬ p2 < -9999 ∧ p2 ≤ 9999
  · rw [if_pos h, if_pos (e.mpr h)]
  · rw [if_neg h, if_neg (fun z => h (e.mp z))]
theorem div100_fin (v : Int32) : FF (FP.fdiv (FP.i2f v) (1120403456 : UInt32)) := by
  have h := Jvm.FP.Core.fdiv_mag (a := FP.i2f v) (b := 1120403456) (K := 160) (L := 133) (Jvm.FP.Core.i2f_mag v) (by decide) (by decide) (by omega) (by omega)
  exact Jvm.FP.Core.fin_of_lt32 h (by omega)
theorem hb_key {x : UInt32} (hn : Jvm.FP.Core.val32 x ≠ .nan) (h : x.toNat % 2 ^ 31 ≤ 1176255488) : HBd x := by
  have hh : Jvm.FP.Core.val32 1176255488 ≠ .nan := (Jvm.FP.Core.notNaN_iff32 _).mp ff_hi.notNaN
  have hl : Jvm.FP.Core.val32 3323739136 ≠ .nan := (Jvm.FP.Core.notNaN_iff32 _).mp ff_lo.notNaN
  have hx := x.toNat_lt
  have e : hld x = x := by
    have k1 : ¬ FP.fcmp x 3323739136 = some .lt := fun q => by
      have := (Jvm.FP.Core.fcmp_lt_key hn hl).mp q
      rw [fkey_const2] at this
      unfold Jvm.FP.Core.fkey at this
      split at this <;> omega
    have k2 : ¬ FP.fcmp x 1176255488 = some .gt := fun q => by
      have := (Jvm.FP.Core.fcmp_gt_key hn hh).mp q
      rw [fkey_const1] at this
      unfold Jvm.FP.Core.fkey at this
      split at this <;> omega
    have n1 : ¬ FP.fcmp x 1176255488 = none := fun q => by
      rw [show FP.fcmp x 1176255488 = some _ from Jvm.FP.Core.fcmp_key hn hh] at q
      cases q
    have g1 : (0 : Int32) ≤ Op.cmpValue (FP.fcmp x (3323739136 : UInt32)) .g := by
      cases hc : FP.fcmp x (3323739136 : UInt32) with
      | none => decide
      | some o => cases o with
        | lt => exact absurd hc k1
        | eq => decide
        | gt => decide
    have g2 : Op.cmpValue (FP.fcmp x (1176255488 : UInt32)) .l ≤ 0 := by
      cases hc : FP.fcmp x (1176255488 : UInt32) with
      | none => exact absurd hc n1
      | some o => cases o with
        | gt => exact absurd hc k2
        | eq => decide
        | lt => decide
    unfold hld
    rw [if_pos g1, if_pos g2]
  rw [← e]
  exact hb_hld (n32_of ((Jvm.FP.Core.notNaN_iff32 x).mpr hn))
theorem zv_16384 : Jvm.FP.Core.zval Jvm.FP.Core.b32 (Jvm.FP.Core.val32 1182793728) = (16384 : Int) * (Jvm.FP.Core.one32 : Int) := by decide +kernel
theorem zv_m16384 : Jvm.FP.Core.zval Jvm.FP.Core.b32 (Jvm.FP.Core.val32 3330277376) = (-16384 : Int) * (Jvm.FP.Core.one32 : Int) := by decide +kernel
theorem i2f_small {v : Int32} (h1 : -9999 ≤ v.toInt) (h2 : v.toInt ≤ 9999) : (FP.i2f v).toNat % 2 ^ 31 < 141 * 2 ^ 23 := by
  have hF := Jvm.FP.Core.i2f_int (a := v) (by omega)
  have hz := Jvm.FP.Core.FInt_zval hF
  have hn := Jvm.FP.Core.FInt_ne_nan hF
  have hp := Jvm.FP.Core.one32_pos
  have hh : Jvm.FP.Core.val32 1182793728 ≠ .nan := by decide +kernel
  have hl : Jvm.FP.Core.val32 3330277376 ≠ .nan := by decide +kernel
  have c1 := (Jvm.FP.Core.fcmp_lt_key hn hh).mp (Jvm.FP.Core.fcmp_lt.mpr ⟨hn, hh, by
    rw [hz, zv_16384]; exact Int.mul_lt_mul_of_pos_right (by omega) (by omega)⟩)
  have c2 := (Jvm.FP.Core.fcmp_gt_key hn hl).mp (Jvm.FP.Core.fcmp_gt.mpr ⟨hn, hl, by
    rw [hz, zv_m16384]; exact Int.mul_lt_mul_of_pos_right (by omega) (by omega)⟩)
  rw [show Jvm.FP.Core.fkey 1182793728 = 1182793728 by decide] at c1
  rw [show Jvm.FP.Core.fkey 3330277376 = -1182793728 by decide] at c2
  have hx := (FP.i2f v).toNat_lt
  show (Jvm.FP.Core.i2f v).toNat % 2 ^ 31 < 141 * 2 ^ 23
  unfold Jvm.FP.Core.fkey at c1 c2
  split at c1 <;> omega
theorem fh_div100 {v : Int32} (h1 : ¬ v < -9999) (h2 : v ≤ 9999) : FH (FP.fdiv (FP.i2f v) (1120403456 : UInt32)) := by
  rw [Int32.lt_iff_toInt_lt] at h1
  rw [Int32.le_iff_toInt_le] at h2
  have q3 : (-9999 : Int32).toInt = -9999 := rfl
  have q4 : (9999 : Int32).toInt = 9999 := rfl
  have h := Jvm.FP.Core.fdiv_mag (a := FP.i2f v) (b := 1120403456) (K := 141) (L := 133) (i2f_small (by omega) (by omega)) (by decide) (by decide) (by omega) (by omega)
  have hf := div100_fin v
  exact ⟨hf, hb_key ((Jvm.FP.Core.notNaN_iff32 _).mp hf.notNaN) (by
    have : (FP.fdiv (FP.i2f v) (1120403456 : UInt32)).toNat % 2 ^ 31 < (141 + (149 - 23 - 1) - 133 + 3) * 2 ^ 23 := h
    omega)⟩
theorem op_ladle (hB : BR LS SE b s f) (hH : HA LS SE RA nx ch past pastF) (hq : bks nx = some a) (hR : RFR kp rs de hc ca cd rf) (hn : 0 < n4) (hn9 : n4 < 2147483648) :
    Ok (g_L_ladle LS SE n4 ans b.1 b.2.1 b.2.2.1 b.2.2.2.1 b.2.2.2.2.2.2.1 (nI nx) (nI ch) bks (RA nx).1 (RA nx).2.1 (RA nx).2.2.1 (RA nx).2.2.2.1 (RA nx).2.2.2.2.1 b.2.2.2.2.1 (RA nx).2.2.2.2.2.1 b.2.2.2.2.2.1 (RA nx).2.2.2.2.2.2.1 (RA nx).2.2.2.2.2.2.2.1 b.2.2.2.2.2.2.2.1 (RA nx).2.2.2.2.2.2.2.2.1 b.2.2.2.2.2.2.2.2.1 (RA nx).2.2.2.2.2.2.2.2.2.1 b.2.2.2.2.2.2.2.2.2.1 (RA nx).2.2.2.2.2.2.2.2.2.2.1 b.2.2.2.2.2.2.2.2.2.2.1 (RA nx).2.2.2.2.2.2.2.2.2.2.2 b.2.2.2.2.2.2.2.2.2.2.2 kp rs de hc p1 p2 a) (fun o => Ok (g_X12_ladle (nI ch) th s be f beF rf past pastF p1 p2) (fun o' => AN ans o.1 o.2.1 o'.1 o'.2.2.1 ∧ BR LS SE (b.1, b.2.1, b.2.2.1, b.2.2.2.1, b.2.2.2.2.1, o.2.2.2.2.2.2.2.2.2.2.1, b.2.2.2.2.2.2.1, b.2.2.2.2.2.2.2.1, b.2.2.2.2.2.2.2.2.1, b.2.2.2.2.2.2.2.2.2.1, b.2.2.2.2.2.2.2.2.2.2.1, b.2.2.2.2.2.2.2.2.2.2.2) o'.2.2.2.1 o'.2.2.2.2.2.1 ∧ NH LS SE RA nx (o.2.2.2.2.1, o.2.2.2.2.2.1, o.2.2.2.2.2.2.1, o.2.2.2.2.2.2.2.1, o.2.2.2.2.2.2.2.2.1, o.2.2.2.2.2.2.2.2.2.1, o.2.2.2.2.2.2.2.2.2.2.2.1, o.2.2.2.2.2.2.2.2.2.2.2.2.1, o.2.2.2.2.2.2.2.2.2.2.2.2.2.1, o.2.2.2.2.2.2.2.2.2.2.2.2.2.2.1, o.2.2.2.2.2.2.2.2.2.2.2.2.2.2.2.1, o.2.2.2.2.2.2.2.2.2.2.2.2.2.2.2.2.1) o.2.2.1 o.2.2.2.1 o'.2.1 o'.2.2.2.2.2.2.2.2.1 o'.2.2.2.2.2.2.2.2.2 ∧ RFR o.2.2.2.2.2.2.2.2.2.2.2.2.2.2.2.2.2.1 o.2.2.2.2.2.2.2.2.2.2.2.2.2.2.2.2.2.2.1 o.2.2.2.2.2.2.2.2.2.2.2.2.2.2.2.2.2.2.2.1 o.2.2.2.2.2.2.2.2.2.2.2.2.2.2.2.2.2.2.2.2 ca cd o'.2.2.2.2.2.2.2.1)) := by
  have hgc : inb 0 n4 = true := decide_eq_true ⟨by decide, by show (0 : Int) < n4; omega⟩
  obtain ⟨nc, ns, X, hBx⟩ := id hB
  obtain ⟨h6, h4, e1, e2, h0, h1, h2, h3, hX, hS, hT⟩ := id hBx
  obtain ⟨htx, hbo⟩ := BR_tx hB
  unfold g_L_ladle g_X11_ladle
  rcases idx p1 nc (by omega) with ⟨c, hc', rfl⟩ | ho
  · have hc6 : c < 6 := by omega
    obtain ⟨⟨a1, a2, a3, a4⟩, l1, l2, l3, l4⟩ := hX c hc6
    obtain ⟨s1, s2, s3, s4, s5, s6⟩ := hS c hc6
    have hin : inb (nI c) 6 = true := x_inb hc6 (by omega)
    have hcl : (nI c).toNatClampNeg = c := x_cl (by omega)
    have nC : g_X11_needCauldron b.1 (nI c) = some 0 := by rw [e1]; exact k_needCauldron_in hc' h6
    have isC := k_X12_isCauldron_in h0 hc' h6
    have hbr : g_X12_isBroth s (nI c) = some (b.2.2.2.2.2.2.1 c) := by rw [← s1]; exact k_X12_isBroth hc6 (by rw [s1]; exact a1)
    have hof : g_X12_of s (nI c) 3 = some (b.2.2.2.2.1 c) := by rw [← s4]; exact k_X12_of (j := 3) hc6 (by omega)
    have hrg := k_in_9999 (p2 := p2)
    have bad : ¬ (¬ p2 < -9999 ∧ p2 ≤ 9999) → Ok (g_X12_ladle (nI ch) th s be f beF rf past pastF (nI c) p2) (fun o' => AN ans 2 ans o'.1 o'.2.2.1 ∧ BR LS SE b o'.2.2.2.1 o'.2.2.2.2.2.1 ∧ NH LS SE RA nx (RA nx) (nI nx) (nI ch) o'.2.1 o'.2.2.2.2.2.2.2.2.1 o'.2.2.2.2.2.2.2.2.2 ∧ RFR kp rs de hc ca cd o'.2.2.2.2.2.2.2.1) := by
      intro hbad
      rw [if_neg hbad] at hrg
      have dO : g_X12_doLadle 0 s f rf (nI c) p2 = some (0, 2, f, rf) := by
        unfold g_X12_doLadle
        rw [isC, e_gbS, if_neg (by decide), hrg, e_gbS, if_pos (show (0 : Int32) = 0 from rfl)]; rfl
      unfold g_X12_ladle
      exact ok_be (k_X12_keep th s be f beF) (ok_be dO (ok_be (k_X12_endsF (show ¬ (2 : Int32) ≤ 0 by decide)) (ok_s ⟨AN_n rfl rfl, BR_back hB, NH_self hH, hR⟩)))
    by_cases g1 : p2 < -9999
    · unfold g_X11_ladle_b19
      exact bbe nC (bt rfl (bt g1 (bs (ok_f (show ¬ (1 : Int32) = 0 by decide) (ok_t rfl (ok_s (bad (fun z => z.1 g1))))))))
    by_cases g2 : p2 ≤ 9999
    · rw [if_pos ⟨g1, g2⟩] at hrg
      by_cases hk : b.2.2.2.2.2.2.1 c = 0
      · refine bbe nC (bt rfl (bf g1 (bt g2 (bc hin (bt (by rw [hcl]; exact hk) (bbe (show g_X7_keep kp rs de hc 4 (nI c) = some (1, 4, nI c, 0) from rfl) (bs (ok_f (show ¬ (4 : Int32) = 0 by decide) (ok_f (show ¬ (4 : Int32) = 1 by decide) (ok_f (show ¬ (4 : Int32) = 2 by decide) (ok_t rfl (ok_s ?_))))))))))))
        have dO : g_X12_doLadle 0 s f rf (nI c) p2 = some (0, 3, f, upd (upd (upd (upd rf 0 4) 1 (nI c)) 2 0) 3 0) := by
          unfold g_X12_doLadle
          rw [isC, e_gbS, if_neg (by decide), hrg, e_gbS, if_neg (by decide), hbr, e_gbS, if_pos hk]; rfl
        unfold g_X12_ladle
        exact ok_be (k_X12_keep th s be f beF) (ok_be dO (ok_be (k_X12_endsF (show ¬ (3 : Int32) ≤ 0 by decide)) (ok_s ⟨AN_n rfl rfl, BR_back hB, NH_self hH, RFR_keep (hc := 0) (show (4 : Int32) ≠ 0 by decide)⟩)))
      · refine bbe nC (bt rfl (bf g1 (bt g2 (bc hin (bf (by rw [hcl]; exact hk) (ba (ok_b (k_X4_remember (LS := LS) (SE := SE) htx hbo (RA nx) hH.1 hH.2.1 hq) (fun r hr => bc hin (bbe (by rw [hcl]; exact k_bitsOf a4.1) (bc (ff_div100 p2) (bc hin (bs (ok_t rfl (ok_c hgc (ok_s ?_)))))))))))))))
        rw [hcl, hr.1, hr.2.1]
        have dO : g_X12_doLadle 0 s f rf (nI c) p2 = some ((b.2.2.2.2.2.1 c).toInt32, 0, vf_upd f c (FP.fdiv (FP.i2f p2) (1120403456 : UInt32)), rf) := by
          unfold g_X12_doLadle
          rw [isC, e_gbS, if_neg (by decide), hrg, e_gbS, if_neg (by decide), hbr, e_gbS, if_neg hk, e_gc hin, hcl, s6, k_Jbits a4.1, e_gbS, e_gc (ff_div100 p2), e_gc hin]
        have hnew : BRx LS SE nc ns X (b.1, b.2.1, b.2.2.1, b.2.2.2.1, b.2.2.2.2.1, vf_upd b.2.2.2.2.2.1 c (FP.fdiv (FP.i2f p2) (1120403456 : UInt32)), b.2.2.2.2.2.2.1, b.2.2.2.2.2.2.2.1, b.2.2.2.2.2.2.2.2.1, b.2.2.2.2.2.2.2.2.2.1, b.2.2.2.2.2.2.2.2.2.2.1, b.2.2.2.2.2.2.2.2.2.2.2) s (vf_upd f c (FP.fdiv (FP.i2f p2) (1120403456 : UInt32))) := by
          refine BR_one (c := c) hBx hc6 (fun d hd => ⟨rfl, x_vn hd, rfl, rfl, x_vn hd⟩) (fun j _ _ _ => rfl) s2 s3 s4 ?_ ⟨⟨a1, fun z => absurd z hk, a3, ?_⟩, l1, l2, l3, l4⟩
          · rw [x_vs, x_vs]
          · show FH (vf_upd b.2.2.2.2.2.1 c _ c)
            rw [x_vs]
            exact fh_div100 g1 g2
        obtain ⟨past', pastF', hE1, hE2⟩ := HA_push (s := s) (f := vf_upd f c (FP.fdiv (FP.i2f p2) (1120403456 : UInt32))) hH (BR_keep (be := be) (beF := beF) hB) hr.2.2 (b.2.2.2.2.2.1 c).toInt32
        unfold g_X12_ladle
        exact ok_be (k_X12_keep th s be f beF) (ok_be dO (ok_be hE1 (ok_s ⟨AN_y rfl rfl, ⟨nc, ns, X, hnew⟩, ⟨_, _, rfl, rfl, rfl, hE2, Or.inr rfl⟩, hR⟩)))
    · unfold g_X11_ladle_b19
      exact bbe nC (bt rfl (bf g1 (bf g2 (bs (ok_f (show ¬ (1 : Int32) = 0 by decide) (ok_t rfl (ok_s (bad (fun z => g2 z.2)))))))))
  · have nC : g_X11_needCauldron b.1 p1 = some 2 := by rw [e1]; exact k_needCauldron_out ho
    refine bbe nC (bf (by decide) (bs (ok_f (show ¬ (2 : Int32) = 0 by decide) (ok_f (show ¬ (2 : Int32) = 1 by decide) (ok_t rfl (ok_s ?_))))))
    have dO : g_X12_doLadle 0 s f rf p1 p2 = some (0, 1, f, rf) := by
      unfold g_X12_doLadle
      rw [k_X12_isCauldron_out h0 ho h6, e_gbS, if_pos (show nI 0 = 0 from rfl)]; rfl
    unfold g_X12_ladle
    exact ok_be (k_X12_keep th s be f beF) (ok_be dO (ok_be (k_X12_endsF (show ¬ (1 : Int32) ≤ 0 by decide)) (ok_s ⟨AN_n rfl rfl, BR_back hB, NH_self hH, hR⟩)))
end POUR
