/-! THE CALL meanBits -/
section MEAN
variable {LS : List Nat} {SE : Nat → SV} {b : BK} {s kd lo hi mn si : Nat → Int32} {f mu : Nat → UInt32} {n4 nc : Nat} {th : Int32} {ans : Nat → Int64}
theorem f2d_mag {a : UInt32} (h : FF a) : (FP.f2d a).toNat % 2 ^ 63 < 1151 * 2 ^ 52 := by
  have hfin := (Jvm.FP.Core.fin_bits32 a).mp h
  obtain ⟨c, q, g, e⟩ := SN_f2d h
  have hz := Jvm.FP.Core.zmag_bits (a := FP.f2d a) (by rw [g]; exact fun z => by cases z)
  have hz2 : Jvm.FP.Core.zmag Jvm.FP.Core.b64 (Jvm.FP.Core.val64 (FP.f2d a)) = c * 2 ^ (q + 1074).toNat := by
    rw [g]
    show Jvm.FP.Core.inUnits c q Jvm.FP.Core.b64.qmin = _
    unfold Jvm.FP.Core.inUnits
    rw [qn64, show q - -1074 = q + 1074 by omega]
  have hu : Jvm.FP.Core.unitsOf Jvm.FP.Core.b32 (a.toNat % 2 ^ 31) < 2 ^ 277 := by
    have h1 := Jvm.FP.Core.unitsOf_lt (f := Jvm.FP.Core.b32) (m := a.toNat % 2 ^ 31) (k := 255 * Jvm.FP.Core.b32.tails) (by rw [Jvm.FP.Core.tails_b32]; omega)
    rw [Jvm.FP.Core.unitsOf_start (by omega), Jvm.FP.Core.tails_b32, ← Nat.pow_add] at h1
    exact h1
  have hN : Jvm.FP.Core.unitsOf Jvm.FP.Core.b64 ((FP.f2d a).toNat % 2 ^ 63) < 2 ^ 1202 := by
    rw [← hz, hz2, ← e]
    have := Nat.mul_lt_mul_of_pos_right hu (show 0 < 2 ^ 925 from Nat.two_pow_pos _)
    rw [← Nat.pow_add] at this
    exact this
  have hs := Jvm.FP.Core.unitsOf_start (f := Jvm.FP.Core.b64) (K := 1151) (by omega)
  rw [Jvm.FP.Core.tails_b64, ← Nat.pow_add] at hs
  exact Jvm.FP.Core.unitsOf_lt_iff.mp (by rw [hs]; exact hN)
theorem mag_n {x : UInt64} {K : Nat} (h : x.toNat % 2 ^ 63 < K * 2 ^ 52) (hK : K ≤ 2047) : DF x ∧ n64 x = true := by
  have := Jvm.FP.Core.fin_of_lt h hK
  exact ⟨this, n64_of this.notNaN⟩
def ME (kd mn : Nat → Int32) (mu : Nat → UInt32) : Nat → UInt64
  | 0 => FP.dconst0
  | c + 1 => FP.dadd (ME kd mn mu c) (if kd c = 0 then FP.i2d (mn c) else FP.f2d (mu c))
theorem ME_a (hX : CX kd lo hi mn mu) {c : Nat} (hc : c < 6) : (if kd c = 0 then FP.i2d (mn c) else FP.f2d (mu c)).toNat % 2 ^ 63 < 1151 * 2 ^ 52 := by
  by_cases z : kd c = 0
  · rw [if_pos z]
    have := Jvm.FP.Core.i2d_mag (mn c)
    exact Nat.lt_of_lt_of_le this (Nat.mul_le_mul_right _ (by omega))
  · rw [if_neg z]
    exact f2d_mag (hX c hc).1.2.2.2.1
theorem ME_mag (hX : CX kd lo hi mn mu) : ∀ c, c ≤ 6 → (ME kd mn mu c).toNat % 2 ^ 63 < (1151 + 2 * c) * 2 ^ 52
  | 0, _ => by
    show (FP.dconst0).toNat % 2 ^ 63 < (1151 + 2 * 0) * 2 ^ 52
    decide
  | c + 1, hc => by
    have ih := ME_mag hX c (by omega)
    have ha := ME_a hX (c := c) (by omega)
    have ha' := Nat.lt_of_lt_of_le ha (Nat.mul_le_mul_right (2 ^ 52) (show 1151 ≤ 1151 + 2 * c by omega))
    have h := Jvm.FP.Core.dadd_mag (K := 1151 + 2 * c) ih ha' (by omega)
    rw [show 1151 + 2 * c + 2 = 1151 + 2 * (c + 1) by omega] at h
    exact h
theorem l_meanC (h6 : nc ≤ 6) (hz : nc ≠ 0) (hX : CX kd lo hi mn mu) : ∀ (n i : Nat), i ≤ nc → nc - i < n → g_X11_meanBits_b25 (nI nc) kd mn mu n (ME kd mn mu i) (nI i) = some (0, (FP.ddiv (ME kd mn mu nc) (FP.i2d (nI nc))).toInt64)
  | 0, i, _, h => absurd h (Nat.not_lt_zero _)
  | n + 1, i, hi', hm => by
    unfold g_X11_meanBits_b25 g_X11_meanBits_b83
    by_cases e : i = nc
    · subst e
      have hb := Jvm.FP.Core.i2d_big (v := nI i) (by rw [nI_toInt (by omega)]; omega)
      have hd := Jvm.FP.Core.ddiv_mag (K := 1151 + 2 * i) (L := 1023) (ME_mag hX i h6) hb.1 hb.2 (by omega) (by omega)
      obtain ⟨d1, d2⟩ := mag_n hd (by omega)
      rw [if_pos (nI_le (Nat.le_refl _) (by omega)), e_gc d2]
      exact e_gb (k_longBitsOf d1)
    · have hi6 : i < 6 := by omega
      have hin : inb (nI i) 6 = true := x_inb hi6 (by omega)
      have ih := l_meanC h6 hz hX n (i + 1) (by omega) (by omega)
      have hs := (mag_n (ME_mag hX (i + 1) (by omega)) (by omega)).2
      have ha := (mag_n (ME_a hX hi6) (by omega)).2
      have es : ME kd mn mu (i + 1) = FP.dadd (ME kd mn mu i) (if kd i = 0 then FP.i2d (mn i) else FP.f2d (mu i)) := rfl
      rw [if_neg (nI_ge (by omega) (by omega)), e_gc hin, x_cl (by omega)]
      by_cases z : kd i = 0
      · rw [if_pos z] at es
        rw [es] at hs ih
        rw [if_pos z, e_gc hin, e_gc hs, e_gl, e_gl, nI_1]
        exact ih
      · rw [if_neg z] at es ha
        rw [es] at hs ih
        rw [if_neg z, e_gc hin, e_gc ha, e_gc hs, e_gl, e_gl, nI_1]
        exact ih
theorem l_meanM {t : Int32} (h6 : nc ≤ 6) (hz : nc ≠ 0) (ht : t ≤ 0) (hX : CX kd lo hi mn mu) (hS : CS s f kd lo hi mn si mu) : ∀ (n i : Nat), i ≤ nc → nc - i < n → g_X12_meanBits_b25 s f n t (nI nc) (ME kd mn mu i) (nI i) = some ((FP.ddiv (ME kd mn mu nc) (FP.i2d (nI nc))).toInt64, t)
  | 0, i, _, h => absurd h (Nat.not_lt_zero _)
  | n + 1, i, hi', hm => by
    unfold g_X12_meanBits_b25 g_X12_meanBits_b60
    by_cases e : i = nc
    · subst e
      have hb := Jvm.FP.Core.i2d_big (v := nI i) (by rw [nI_toInt (by omega)]; omega)
      have hd := Jvm.FP.Core.ddiv_mag (K := 1151 + 2 * i) (L := 1023) (ME_mag hX i h6) hb.1 hb.2 (by omega) (by omega)
      obtain ⟨d1, d2⟩ := mag_n hd (by omega)
      rw [if_pos (nI_le (Nat.le_refl _) (by omega)), if_pos ht, e_gc d2]
      exact e_gb (k_Jlbits d1)
    · have hi6 : i < 6 := by omega
      have hin : inb (nI i) 6 = true := x_inb hi6 (by omega)
      have ih := l_meanM h6 hz ht hX hS n (i + 1) (by omega) (by omega)
      have hs := (mag_n (ME_mag hX (i + 1) (by omega)) (by omega)).2
      have ha := (mag_n (ME_a hX hi6) (by omega)).2
      have es : ME kd mn mu (i + 1) = FP.dadd (ME kd mn mu i) (if kd i = 0 then FP.i2d (mn i) else FP.f2d (mu i)) := rfl
      obtain ⟨s1, -, -, s4, -, s6⟩ := hS i hi6
      have hbr : g_X12_isBroth s (nI i) = some (kd i) := by rw [← s1]; exact k_X12_isBroth hi6 (by rw [s1]; exact (CX_bo hX) i hi6)
      have hof : g_X12_of s (nI i) 3 = some (mn i) := by rw [← s4]; exact k_X12_of (j := 3) hi6 (by omega)
      rw [if_neg (nI_ge (by omega) (by omega)), hbr, e_gbS]
      by_cases z : kd i = 0
      · rw [if_pos z] at es
        rw [es] at hs ih
        rw [if_pos z, hof, e_gbS, e_gc hs, e_gl, e_gl, nI_1]
        exact ih
      · rw [if_neg z] at es ha
        rw [es] at hs ih
        rw [if_neg z, e_gc hin, x_cl (by omega), s6, e_gc ha, e_gc hs, e_gl, e_gl, nI_1]
        exact ih
theorem op_meanBits (hB : BR LS SE b s f) (hn : 0 < n4) (hn9 : n4 < 2147483648) : Ok (g_L_meanBits n4 ans b.1 b.2.2.2.2.2.2.1 b.2.2.2.2.1 b.2.2.2.2.2.1) (fun o => Ok (g_X12_meanBits th s f) (fun o' => o.1 = o'.2 ∧ (o.1 = 0 → o.2 = vp_updL ans 0 o'.1) ∧ (o.1 ≠ 0 → o.2 = ans))) := by
  have hgc : inb 0 n4 = true := decide_eq_true ⟨by decide, by show (0 : Int) < n4; omega⟩
  obtain ⟨nc, ns, X, h6, h4, e1, e2, h0, h1, -, -, hX, hS, hT⟩ := hB
  unfold g_L_meanBits g_X11_meanBits g_X12_meanBits
  rw [e1]
  by_cases hz : nc = 0
  · subst hz
    refine ok_be (if_pos rfl) (ok_f (show ¬ (6 : Int32) = 0 by decide) (ok_t rfl (ok_s ?_)))
    refine ok_c rfl (ok_l (ok_t h0 ?_))
    unfold g_X12_meanBits_b17 g_X12_meanBits_b25
    refine ok_t (by rw [show s (0 : Int32).toNatClampNeg = nI 0 from h0]; exact nI_le (b := 0) (Nat.le_refl _) (by omega)) (ok_f (by decide) (ok_s ⟨rfl, fun z => absurd z (show ¬ (1 : Int32) = 0 by decide), fun _ => rfl⟩))
  · have hnz : ¬ nI nc = 0 := fun z => hz (nI_inj (by omega) (by omega) (show nI nc = nI 0 from z))
    refine ok_be ((if_neg hnz).trans (l_meanC h6 hz hX 100 0 (Nat.zero_le _) (by omega))) (ok_t rfl (ok_c hgc (ok_s ?_)))
    refine ok_c rfl (ok_l (ok_f (by rw [show s (0 : Int32).toNatClampNeg = nI nc from h0]; exact hnz) ?_))
    unfold g_X12_meanBits_b17
    rw [show s (0 : Int32).toNatClampNeg = nI nc from h0]
    exact ok_e (l_meanM h6 hz (by decide) hX hS 100 0 (Nat.zero_le _) (by omega)) ⟨rfl, fun _ => rfl, fun z => absurd rfl z⟩
end MEAN
