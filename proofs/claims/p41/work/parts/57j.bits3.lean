/-! rows of the whole claim that speak of the class alone (gen/pure1.py) -/
theorem SN_d {x : UInt64} (h : Jvm.FP.Core.DFin x) : SN (decide (2 ^ 63 ≤ x.toNat)) x (Jvm.FP.Core.unitsOf Jvm.FP.Core.b64 (x.toNat % 2 ^ 63)) := by
  obtain ⟨s, c, q, h1⟩ := h
  have hfin : x.toNat % 2 ^ 63 < 9218868437227405312 := (Jvm.FP.Core.fin_bits x).mp ⟨s, c, q, h1⟩
  have hs := Jvm.FP.Core.sgn_decode (f := Jvm.FP.Core.b64) (n := x.toNat) (by rw [Jvm.FP.Core.mag_toNat64, Jvm.FP.Core.infBits_b64]; omega) (Jvm.FP.Core.lt_full64 x)
  rw [show Jvm.FP.Core.decode Jvm.FP.Core.b64 x.toNat = Jvm.FP.Core.val64 x from rfl, h1, Jvm.FP.Core.half_b64] at hs
  have hs' : s = decide (2 ^ 63 ≤ x.toNat) := hs
  have hz := Jvm.FP.Core.zmag_decode Jvm.FP.Core.good_b64 (n := x.toNat) (by rw [Jvm.FP.Core.mag_toNat64, Jvm.FP.Core.infBits_b64]; omega)
  rw [show Jvm.FP.Core.decode Jvm.FP.Core.b64 x.toNat = Jvm.FP.Core.val64 x from rfl, h1, Jvm.FP.Core.mag_toNat64] at hz
  have hz' : c * 2 ^ (q - Jvm.FP.Core.b64.qmin).toNat = Jvm.FP.Core.unitsOf Jvm.FP.Core.b64 (x.toNat % 2 ^ 63) := hz
  rw [qn64, show q - -1074 = q + 1074 by omega] at hz'
  rw [← hs', ← hz']
  exact ⟨c, q, h1, rfl⟩
theorem b27_z {x : UInt64} (hx : VN x 0) (s0 : Int64) : g_X5_longBitsOf_b27 x s0 = some s0 := by
  unfold g_X5_longBitsOf_b27
  rw [if_pos ((VN_eq0 hx).mpr rfl)]
theorem b27_1 {x : UInt64} {ε T : Nat} (h1 : 1 ≤ ε) (h2 : ε ≤ 2046) (hT : T < 2 ^ 52) (hx : VN x ((2 ^ 52 + T) * 2 ^ (ε - 1))) (s0 : Int64) : g_X5_longBitsOf_b27 x s0 = some ((s0 ||| ((nI ε).toInt64 <<< ((52 : Int32).toInt64 &&& 63))) ||| Int64.ofInt ((T : Nat) : Int)) := by
  have hne : ¬ (2 ^ 52 + T) * 2 ^ (ε - 1) = 0 := Nat.ne_of_gt (Nat.mul_pos (by omega) (Nat.two_pow_pos _))
  have hp := Nat.two_pow_pos 1022
  obtain ⟨e1, r, e2, e3⟩ := expScale (low := -1022) (by omega) (by omega) (G := 2 ^ 52 + T) (k := 1022) (E := (ε : Int) - 1023) hx (by rw [one1022]; exact Nat.mul_le_mul_right _ (by omega)) (by
    rw [one1022, ← Nat.mul_assoc]
    exact Nat.mul_lt_mul_of_pos_right (by omega) hp) (by omega) (by omega) (by
    rw [Nat.mul_assoc, Nat.mul_assoc, ← Nat.pow_add, ← Nat.pow_add]
    congr 2
    omega) (by omega) (by omega)
  have hR : (2 ^ 52 + T) * 2 ^ 1022 - ONE = T * 2 ^ 1022 := by
    rw [one1022, ← Nat.sub_mul, Nat.add_sub_cancel_left]
  have hge : ONE ≤ (2 ^ 52 + T) * 2 ^ 1022 := by rw [one1022]; exact Nat.mul_le_mul_right _ (by omega)
  have hlt : (2 ^ 52 + T) * 2 ^ 1022 < 2 * ONE := by
    rw [one1022, ← Nat.mul_assoc]
    exact Nat.mul_lt_mul_of_pos_right (by omega) hp
  have hs := (VN_sub1 e3 hge hlt).1
  rw [hR] at hs
  have hm : VN (FP.dmul (FP.dsub r FP.dconst1) (4841369599423283200 : UInt64)) (T * 2 ^ 1022 * 2 ^ 52) := VN_mul hs k52 ⟨T, 1074, by rw [Nat.mul_assoc, ← Nat.pow_add], by omega, by omega⟩
  have hdiv : T * 2 ^ 1022 * 2 ^ 52 / ONE = T := by
    rw [Nat.mul_assoc, ← Nat.pow_add]
    exact Nat.mul_div_cancel T (Nat.two_pow_pos _)
  have hd := VN_d2l hm (by rw [hdiv]; omega)
  rw [hdiv] at hd
  unfold g_X5_longBitsOf_b27
  rw [if_neg (fun z => hne ((VN_eq0 hx).mp z))]
  show gb (g_X5_exponentOf x (iI (-1022))) _ = _
  rw [e1, e_gbS, e2, e_gbS, if_pos ((VN_ge e3 VN_1).mpr hge), e_gc (VN_n hs), e_gc (VN_n hm), e_gl, hd]
  rw [show iI ((ε : Int) - 1023) + 1023 = nI ε by
    rw [show (1023 : Int32) = iI 1023 from rfl, iI_add, show (ε : Int) - 1023 + 1023 = (ε : Int) by omega]
    exact iI_n (by omega)]
theorem b27_0 {x : UInt64} {T : Nat} (h0 : 0 < T) (hT : T < 2 ^ 52) (hx : VN x T) (s0 : Int64) : g_X5_longBitsOf_b27 x s0 = some (s0 ||| Int64.ofInt ((T : Nat) : Int)) := by
  have hp := Nat.two_pow_pos 1022
  have hlt : T * 2 ^ 1022 < ONE := by rw [one1022]; exact Nat.mul_lt_mul_of_pos_right hT hp
  obtain ⟨e1, r, e2, e3⟩ := expScale0 (L := 1022) (by omega) (T := T) (k := 1022) hx hlt (by omega) (by omega) rfl
  have hm : VN (FP.dmul r (4841369599423283200 : UInt64)) (T * 2 ^ 1022 * 2 ^ 52) := VN_mul e3 k52 ⟨T, 1074, by rw [Nat.mul_assoc, ← Nat.pow_add], by omega, by omega⟩
  have hdiv : T * 2 ^ 1022 * 2 ^ 52 / ONE = T := by
    rw [Nat.mul_assoc, ← Nat.pow_add]
    exact Nat.mul_div_cancel T (Nat.two_pow_pos _)
  have hd := VN_d2l hm (by rw [hdiv]; omega)
  rw [hdiv] at hd
  unfold g_X5_longBitsOf_b27
  rw [if_neg (fun z => by have := (VN_eq0 hx).mp z; omega)]
  show gb (g_X5_exponentOf x (iI (-1022))) _ = _
  rw [show iI (-1022) = iI (-((1022 : Nat) : Int)) from rfl, e1, e_gbS, e2, e_gbS, if_neg (fun z => by have := (VN_ge e3 VN_1).mp z; omega), e_gc (VN_n hm), e_gl, hd]
theorem ofI64_nat {n : Nat} (h : n < 2 ^ 64) : (Int64.ofInt (n : Int)).toBitVec.toNat = n := by
  show (BitVec.ofInt 64 (n : Int)).toNat = n
  rw [BitVec.toNat_ofInt]
  omega
theorem w64 {x : UInt64} {s : Bool} {ε T : Nat} (hε : ε < 2048) (hT : T < 2 ^ 52) (ha : x.toNat = (if s = true then 2 ^ 63 else 0) + ε * 2 ^ 52 + T) : ((if s = true then (-9223372036854775808 : Int64) else 0) ||| ((nI ε).toInt64 <<< ((52 : Int32).toInt64 &&& 63))) ||| Int64.ofInt ((T : Nat) : Int) = x.toInt64 := by
  apply Int64.toBitVec_inj.mp
  apply BitVec.eq_of_toNat_eq
  have e0 : (nI ε).toInt64 = Int64.ofInt ((ε : Nat) : Int) := by
    apply Int64.toInt_inj.mp
    rw [Int32.toInt_toInt64, nI_toInt (by omega), Int64.toInt_ofInt, show Int64.size = 18446744073709551616 from rfl, Int.bmod_eq_of_le] <;> omega
  have e1 : ((nI ε).toInt64 <<< ((52 : Int32).toInt64 &&& 63)).toBitVec.toNat = ε * 2 ^ 52 := by
    rw [e0, Int64.toBitVec_shiftLeft]
    show ((Int64.ofInt ((ε : Nat) : Int)).toBitVec <<< 52).toNat = _
    rw [BitVec.toNat_shiftLeft, ofI64_nat (by omega), Nat.shiftLeft_eq, Nat.mod_eq_of_lt (by omega)]
  have e3 : (if s = true then (-9223372036854775808 : Int64) else 0).toBitVec.toNat = if s = true then 2 ^ 63 else 0 := by cases s <;> rfl
  rw [Int64.toBitVec_or, Int64.toBitVec_or, BitVec.toNat_or, BitVec.toNat_or, e1, ofI64_nat (by omega), e3]
  show _ = x.toNat
  rw [Nat.or_assoc, or_add hT, ha]
  cases s with
  | false => simp
  | true =>
    have := or_add (X := 1) (i := 63) (T := ε * 2 ^ 52 + T) (by omega)
    rw [Nat.one_mul] at this
    rw [if_pos rfl, this, Nat.add_assoc]
theorem w64_0 {x : UInt64} {s : Bool} {T : Nat} (hT : T < 2 ^ 52) (ha : x.toNat = (if s = true then 2 ^ 63 else 0) + T) : (if s = true then (-9223372036854775808 : Int64) else 0) ||| Int64.ofInt ((T : Nat) : Int) = x.toInt64 := by
  have := w64 (x := x) (s := s) (ε := 0) (T := T) (by omega) hT (by omega)
  rw [← this]
  have e : (nI 0).toInt64 <<< ((52 : Int32).toInt64 &&& 63) = 0 := by decide
  rw [e, Int64.or_zero]
theorem k_lbits_abs {a : UInt64} {s : Bool} {x : UInt64} (hs : (2 ^ 63 ≤ a.toNat) ↔ s = true) (hf : a.toNat % 2 ^ 63 < 9218868437227405312) (hx : VN x (Jvm.FP.Core.unitsOf Jvm.FP.Core.b64 (a.toNat % 2 ^ 63))) : g_X5_longBitsOf_b27 x (if s = true then (-9223372036854775808 : Int64) else 0) = some a.toInt64 := by
  have ha := a.toNat_lt
  have hd : a.toNat = (if s = true then 2 ^ 63 else 0) + a.toNat % 2 ^ 63 := by
    by_cases z : s = true
    · rw [if_pos z]; have := hs.mpr z; omega
    · rw [if_neg z]; have : ¬ 2 ^ 63 ≤ a.toNat := fun y => z (hs.mp y); omega
  generalize hm : a.toNat % 2 ^ 63 = m at *
  have hT : m % 2 ^ 52 < 2 ^ 52 := Nat.mod_lt _ (by decide)
  have hdm : m = m / 2 ^ 52 * 2 ^ 52 + m % 2 ^ 52 := by omega
  by_cases hε : m / 2 ^ 52 = 0
  · have hm0 : m % 2 ^ 52 = m := by omega
    have hm1 : m < 2 ^ 52 := by omega
    rw [u64_0 hm1] at hx
    rcases Nat.eq_zero_or_pos m with z | z
    · rw [z] at hx
      rw [b27_z hx]
      congr 1
      have := w64_0 (x := a) (s := s) (T := 0) (by omega) (by omega)
      rw [← this]
      exact Int64.or_zero.symm
    · rw [b27_0 z hm1 hx]
      congr 1
      exact w64_0 hm1 hd
  · rw [hdm, u64_1 hT (by omega)] at hx
    rw [b27_1 (by omega) (by omega) hT hx]
    congr 1
    exact w64 (by omega) hT (by omega)
theorem k_longBitsOf {a : UInt64} (h : Jvm.FP.Core.DFin a) : g_X5_longBitsOf a = some a.toInt64 := by
  have hf := (Jvm.FP.Core.fin_bits a).mp h
  have h1 := SN_d h
  unfold g_X5_longBitsOf
  rw [k_neg h1, e_gbS]
  by_cases z : 2 ^ 63 ≤ a.toNat
  · rw [decide_eq_true z] at h1 ⊢
    rw [if_pos rfl, if_neg (show ¬ nI 1 = 0 by decide)]
    unfold g_X5_longBitsOf_b15
    rw [if_neg (show ¬ nI 1 = 0 by decide)]
    exact k_lbits_abs (s := true) ⟨fun _ => rfl, fun _ => z⟩ hf (SN_neg h1)
  · rw [decide_eq_false z] at h1 ⊢
    rw [if_neg Bool.false_ne_true, if_pos (show nI 0 = 0 from rfl)]
    unfold g_X5_longBitsOf_b15
    rw [if_pos (show nI 0 = 0 from rfl)]
    exact k_lbits_abs (s := false) ⟨fun y => absurd y z, fun y => by cases y⟩ hf h1
theorem k_Jlbits {a : UInt64} (h : Jvm.FP.Core.DFin a) : g_Jxe99ae_doubleToLongBits_ccdee a = some a.toInt64 := by
  unfold g_Jxe99ae_doubleToLongBits_ccdee g_Jxe99ae_isNaN_b9ae7
  have hn : Jvm.FP.Core.val64 a ≠ .nan := by obtain ⟨s, c, q, g⟩ := h; rw [g]; exact fun z => by cases z
  rw [show FP.dcmp a a = some .eq from Jvm.FP.Core.dcmp_self hn]
  rfl
theorem k_differ {a b : UInt32} (ha : Jvm.FP.Core.FFin a) (hb : Jvm.FP.Core.FFin b) : g_X5_differ a b = some (if a = b then nI 0 else nI 1) := by
  have hna : Jvm.FP.Core.val32 a ≠ .nan := by obtain ⟨s, c, q, g⟩ := ha; rw [g]; exact fun z => by cases z
  have hnb : Jvm.FP.Core.val32 b ≠ .nan := by obtain ⟨s, c, q, g⟩ := hb; rw [g]; exact fun z => by cases z
  have h1 := SN_f2d ha
  have h2 := SN_f2d hb
  have m1 := n64_of ((Jvm.FP.Core.notNaN_iff _).mpr (by obtain ⟨c, q, g, _⟩ := h1; rw [g]; exact fun z => by cases z))
  have m2 := n64_of ((Jvm.FP.Core.notNaN_iff _).mpr (by obtain ⟨c, q, g, _⟩ := h2; rw [g]; exact fun z => by cases z))
  have hk := Jvm.FP.Core.fcmp_key hna hnb
  have ka : Jvm.FP.Core.fkey a = if 2 ^ 31 ≤ a.toNat then ((2 ^ 31 : Nat) : Int) - (a.toNat : Int) else (a.toNat : Int) := rfl
  have kb : Jvm.FP.Core.fkey b = if 2 ^ 31 ≤ b.toNat then ((2 ^ 31 : Nat) : Int) - (b.toNat : Int) else (b.toNat : Int) := rfl
  unfold g_X5_differ
  rw [show FP.fcmp a b = Jvm.FP.Core.fcmp a b from rfl, hk]
  by_cases he : Jvm.FP.Core.fkey a = Jvm.FP.Core.fkey b
  · have e : compare (Jvm.FP.Core.fkey a) (Jvm.FP.Core.fkey b) = .eq := (Jvm.FP.Core.compare_eq_iff _ _).mpr he
    rw [e, if_pos (show Op.cmpValue (some .eq) .l = 0 from rfl), e_gc m1, k_neg h1, e_gbS, e_gc m2, k_neg h2, e_gbS]
    by_cases z1 : 2 ^ 31 ≤ a.toNat
    · rw [if_pos z1] at ka
      by_cases z2 : 2 ^ 31 ≤ b.toNat
      · rw [if_pos z2] at kb
        have : a = b := UInt32.toNat_inj.mp (by omega)
        rw [if_pos this, decide_eq_true z1, decide_eq_true z2, if_pos rfl]
        rfl
      · have : a ≠ b := fun y => z2 (by rw [← y]; exact z1)
        rw [if_neg this, decide_eq_true z1, decide_eq_false z2, if_neg (by decide)]
        rfl
    · rw [if_neg z1] at ka
      by_cases z2 : 2 ^ 31 ≤ b.toNat
      · have : a ≠ b := fun y => z1 (by rw [y]; exact z2)
        rw [if_neg this, decide_eq_false z1, decide_eq_true z2, if_neg (by decide)]
        rfl
      · rw [if_neg z2] at kb
        have : a = b := UInt32.toNat_inj.mp (by omega)
        rw [if_pos this, decide_eq_false z1, decide_eq_false z2, if_pos rfl]
        rfl
  · have hab : a ≠ b := fun y => he (by rw [y])
    rw [if_neg hab]
    rcases Int.lt_or_gt_of_ne he with z | z
    · rw [(Jvm.FP.Core.compare_lt_iff _ _).mpr z]; rfl
    · rw [(Jvm.FP.Core.compare_gt_iff _ _).mpr z]; rfl
