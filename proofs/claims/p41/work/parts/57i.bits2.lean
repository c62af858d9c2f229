/-! rows of the whole claim that speak of the class alone (gen/pure1.py) -/
theorem b29_z {x : UInt64} (hx : VN x 0) (s0 : Int32) : g_X5_bitsOf_b29 x s0 = some s0 := by
  unfold g_X5_bitsOf_b29
  rw [if_pos ((VN_eq0 hx).mpr rfl)]
theorem b29_1 {x : UInt64} {ε T : Nat} (h1 : 1 ≤ ε) (h2 : ε ≤ 254) (hT : T < 2 ^ 23) (hx : VN x ((2 ^ 23 + T) * 2 ^ (ε - 1) * 2 ^ 925)) (s0 : Int32) : g_X5_bitsOf_b29 x s0 = some ((s0 ||| (nI ε <<< (23 &&& 31))) ||| nI T) := by
  have hne : ¬ (2 ^ 23 + T) * 2 ^ (ε - 1) * 2 ^ 925 = 0 := Nat.ne_of_gt (Nat.mul_pos (Nat.mul_pos (by omega) (Nat.two_pow_pos _)) (Nat.two_pow_pos _))
  have hp := Nat.two_pow_pos 1051
  obtain ⟨e1, r, e2, e3⟩ := expScale (low := -126) (by omega) (by omega) (G := 2 ^ 23 + T) (k := 1051) (E := (ε : Int) - 127) hx (by rw [one1051]; exact Nat.mul_le_mul_right _ (by omega)) (by
    rw [one1051, ← Nat.mul_assoc]
    exact Nat.mul_lt_mul_of_pos_right (by omega) hp) (by omega) (by omega) (by
    rw [Nat.mul_assoc, Nat.mul_assoc, Nat.mul_assoc, ← Nat.pow_add, ← Nat.pow_add, ← Nat.pow_add]
    congr 2
    omega) (by omega) (by omega)
  have hR : (2 ^ 23 + T) * 2 ^ 1051 - ONE = T * 2 ^ 1051 := by
    rw [one1051, ← Nat.sub_mul, Nat.add_sub_cancel_left]
  have hge : ONE ≤ (2 ^ 23 + T) * 2 ^ 1051 := by rw [one1051]; exact Nat.mul_le_mul_right _ (by omega)
  have hlt : (2 ^ 23 + T) * 2 ^ 1051 < 2 * ONE := by
    rw [one1051, ← Nat.mul_assoc]
    exact Nat.mul_lt_mul_of_pos_right (by omega) hp
  have hs := (VN_sub1 e3 hge hlt).1
  rw [hR] at hs
  have hm : VN (FP.dmul (FP.dsub r FP.dconst1) (4710765210229538816 : UInt64)) (T * 2 ^ 1051 * 2 ^ 23) := VN_mul hs k23 ⟨T, 1074, by rw [Nat.mul_assoc, ← Nat.pow_add], by omega, by omega⟩
  have hdiv : T * 2 ^ 1051 * 2 ^ 23 / ONE = T := by
    rw [Nat.mul_assoc, ← Nat.pow_add]
    exact Nat.mul_div_cancel T (Nat.two_pow_pos _)
  have hd := VN_d2i hm (by rw [hdiv]; omega)
  rw [hdiv] at hd
  unfold g_X5_bitsOf_b29
  rw [if_neg (fun z => hne ((VN_eq0 hx).mp z))]
  show gb (g_X5_exponentOf x (iI (-126))) _ = _
  rw [e1, e_gbS, e2, e_gbS, if_pos ((VN_ge e3 VN_1).mpr hge), e_gc (VN_n hs), e_gc (VN_n hm), e_gl, hd]
  rw [show iI ((ε : Int) - 127) + 127 = nI ε by
    rw [show (127 : Int32) = iI 127 from rfl, iI_add, show (ε : Int) - 127 + 127 = (ε : Int) by omega]
    exact iI_n (by omega)]
theorem b29_0 {x : UInt64} {T : Nat} (h0 : 0 < T) (hT : T < 2 ^ 23) (hx : VN x (T * 2 ^ 925)) (s0 : Int32) : g_X5_bitsOf_b29 x s0 = some (s0 ||| nI T) := by
  have hne : ¬ T * 2 ^ 925 = 0 := Nat.ne_of_gt (Nat.mul_pos h0 (Nat.two_pow_pos _))
  have hp := Nat.two_pow_pos 1051
  have hlt : T * 2 ^ 1051 < ONE := by rw [one1051]; exact Nat.mul_lt_mul_of_pos_right hT hp
  obtain ⟨e1, r, e2, e3⟩ := expScale0 (L := 126) (by omega) (T := T) (k := 1051) hx hlt (by omega) (by omega) (by
    rw [Nat.mul_assoc, ← Nat.pow_add])
  have hm : VN (FP.dmul r (4710765210229538816 : UInt64)) (T * 2 ^ 1051 * 2 ^ 23) := VN_mul e3 k23 ⟨T, 1074, by rw [Nat.mul_assoc, ← Nat.pow_add], by omega, by omega⟩
  have hdiv : T * 2 ^ 1051 * 2 ^ 23 / ONE = T := by
    rw [Nat.mul_assoc, ← Nat.pow_add]
    exact Nat.mul_div_cancel T (Nat.two_pow_pos _)
  have hd := VN_d2i hm (by rw [hdiv]; omega)
  rw [hdiv] at hd
  unfold g_X5_bitsOf_b29
  rw [if_neg (fun z => hne ((VN_eq0 hx).mp z))]
  show gb (g_X5_exponentOf x (iI (-126))) _ = _
  rw [show iI (-126) = iI (-((126 : Nat) : Int)) from rfl, e1, e_gbS, e2, e_gbS, if_neg (fun z => by have := (VN_ge e3 VN_1).mp z; omega), e_gc (VN_n hm), e_gl, hd]
theorem w32 {a : UInt32} {s : Bool} {ε T : Nat} (hε : ε < 256) (hT : T < 2 ^ 23) (ha : a.toNat = (if s = true then 2 ^ 31 else 0) + ε * 2 ^ 23 + T) : ((if s = true then (-2147483648 : Int32) else 0) ||| (nI ε <<< (23 &&& 31))) ||| nI T = a.toInt32 := by
  apply Int32.toBitVec_inj.mp
  apply BitVec.eq_of_toNat_eq
  have e1 : (nI ε <<< ((23 : Int32) &&& 31)).toBitVec.toNat = ε * 2 ^ 23 := by
    rw [Int32.toBitVec_shiftLeft]
    show ((BitVec.ofNat 32 ε) <<< 23).toNat = _
    rw [BitVec.toNat_shiftLeft, BitVec.toNat_ofNat, Nat.mod_eq_of_lt (show ε < 2 ^ 32 by omega), Nat.shiftLeft_eq, Nat.mod_eq_of_lt (by omega)]
  have e2 : (nI T).toBitVec.toNat = T := by
    show (BitVec.ofNat 32 T).toNat = T
    rw [BitVec.toNat_ofNat, Nat.mod_eq_of_lt (by omega)]
  have e3 : (if s = true then (-2147483648 : Int32) else 0).toBitVec.toNat = if s = true then 2 ^ 31 else 0 := by cases s <;> rfl
  rw [Int32.toBitVec_or, Int32.toBitVec_or, BitVec.toNat_or, BitVec.toNat_or, e1, e2, e3]
  show _ = a.toNat
  rw [Nat.or_assoc, or_add hT, ha]
  cases s with
  | false => simp
  | true =>
    have := or_add (X := 1) (i := 31) (T := ε * 2 ^ 23 + T) (by omega)
    rw [Nat.one_mul] at this
    rw [if_pos rfl, this, Nat.add_assoc]
theorem w32_0 {a : UInt32} {s : Bool} {T : Nat} (hT : T < 2 ^ 23) (ha : a.toNat = (if s = true then 2 ^ 31 else 0) + T) : (if s = true then (-2147483648 : Int32) else 0) ||| nI T = a.toInt32 := by
  have := w32 (a := a) (s := s) (ε := 0) (T := T) (by omega) hT (by omega)
  rw [← this]
  have e : nI 0 <<< ((23 : Int32) &&& 31) = 0 := by decide
  rw [e, Int32.or_zero]
theorem k_bits_abs {a : UInt32} {s : Bool} {x : UInt64} (hs : (2 ^ 31 ≤ a.toNat) ↔ s = true) (hf : a.toNat % 2 ^ 31 < 2139095040) (hx : VN x (Jvm.FP.Core.unitsOf Jvm.FP.Core.b32 (a.toNat % 2 ^ 31) * 2 ^ 925)) : g_X5_bitsOf_b29 x (if s = true then (-2147483648 : Int32) else 0) = some a.toInt32 := by
  have ha := a.toNat_lt
  have hd : a.toNat = (if s = true then 2 ^ 31 else 0) + a.toNat % 2 ^ 31 := by
    by_cases z : s = true
    · rw [if_pos z]; have := hs.mpr z; omega
    · rw [if_neg z]; have : ¬ 2 ^ 31 ≤ a.toNat := fun y => z (hs.mp y); omega
  generalize hm : a.toNat % 2 ^ 31 = m at *
  have hT : m % 2 ^ 23 < 2 ^ 23 := Nat.mod_lt _ (by decide)
  have hdm : m = m / 2 ^ 23 * 2 ^ 23 + m % 2 ^ 23 := by omega
  by_cases hε : m / 2 ^ 23 = 0
  · have hm0 : m % 2 ^ 23 = m := by omega
    have hm1 : m < 2 ^ 23 := by omega
    rw [u32_0 hm1] at hx
    rcases Nat.eq_zero_or_pos m with z | z
    · rw [z, Nat.zero_mul] at hx
      rw [b29_z hx]
      congr 1
      have := w32_0 (a := a) (s := s) (T := 0) (by omega) (by omega)
      rw [← this]
      exact Int32.or_zero.symm
    · rw [b29_0 z hm1 hx]
      congr 1
      exact w32_0 hm1 hd
  · rw [hdm, u32_1 hT (by omega)] at hx
    rw [b29_1 (by omega) (by omega) hT hx]
    congr 1
    exact w32 (by omega) hT (by omega)
theorem k_bitsOf {a : UInt32} (h : Jvm.FP.Core.FFin a) : g_X5_bitsOf a = some a.toInt32 := by
  have hf := (Jvm.FP.Core.fin_bits32 a).mp h
  have h1 := SN_f2d h
  have hn := n64_of ((Jvm.FP.Core.notNaN_iff _).mpr (by obtain ⟨c, q, g, _⟩ := h1; rw [g]; exact fun z => by cases z))
  unfold g_X5_bitsOf
  rw [e_gc hn, k_neg h1, e_gbS]
  by_cases z : 2 ^ 31 ≤ a.toNat
  · rw [decide_eq_true z] at h1 ⊢
    rw [if_pos rfl, if_neg (show ¬ nI 1 = 0 by decide), e_gc hn]
    unfold g_X5_bitsOf_b18
    rw [if_neg (show ¬ nI 1 = 0 by decide)]
    exact k_bits_abs (s := true) ⟨fun _ => rfl, fun _ => z⟩ hf (SN_neg h1)
  · rw [decide_eq_false z] at h1 ⊢
    rw [if_neg Bool.false_ne_true, if_pos (show nI 0 = 0 from rfl), e_gc hn]
    unfold g_X5_bitsOf_b18
    rw [if_pos (show nI 0 = 0 from rfl)]
    exact k_bits_abs (s := false) ⟨fun y => absurd y z, fun y => by cases y⟩ hf h1
