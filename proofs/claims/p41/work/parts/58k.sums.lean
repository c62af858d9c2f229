/-! rows of the whole claim that speak of the class alone (gen/pure1.py) -/
section
variable {LS : List Nat} {SE : Nat → SV} {b : BK} {s nu sg jB kB kd lo hi mn si rf : Nat → Int32} {f mu : Nat → UInt32} {n4 nc : Nat} {th tk sp ms fa so sps so' p1 p2 p3 : Int32} {iB sB : Nat → Int32} {l h sL sH l' h' sL' sH' : Nat → Int64} {ans : Nat → Int64}
theorem sub32 {x y : Int32} (h1 : -99 ≤ x.toInt) (h2 : x.toInt ≤ 99) (h3 : -99 ≤ y.toInt) (h4 : y.toInt ≤ 99) : (x - y).toInt = x.toInt - y.toInt := by
  rw [Int32.toInt_sub, Int.bmod_eq_of_le] <;> omega
def WD (kd lo hi : Nat → Int32) : Nat → Option Nat
  | 0 => none
  | c + 1 => if kd c = 0 then (match WD kd lo hi c with
    | none => some c
    | some w => if hi c - lo c ≤ hi w - lo w then some w else some c) else WD kd lo hi c
def WR (lo hi : Nat → Int32) : Option Nat → Int32
  | none => -1
  | some w => hi w - lo w
theorem WD_lt : ∀ c w, WD kd lo hi c = some w → w < c
  | 0, w, e => by cases e
  | c + 1, w, e => by
    have ih := WD_lt c
    unfold WD at e
    by_cases g : kd c = 0
    · rw [if_pos g] at e
      cases hw : WD kd lo hi c with
      | none =>
        rw [hw] at e
        cases e
        exact Nat.lt_succ_self _
      | some v =>
        rw [hw] at e
        have := ih v hw
        by_cases g2 : hi c - lo c ≤ hi v - lo v
        · have e' : some v = some w := (if_pos g2).symm.trans e
          cases e'
          omega
        · have e' : some c = some w := (if_neg g2).symm.trans e
          cases e'
          omega
    · rw [if_neg g] at e
      have := ih w e
      omega
theorem WD_s (c : Nat) : WD kd lo hi (c + 1) = if kd c = 0 then (if hi c - lo c ≤ WR lo hi (WD kd lo hi c) ∧ WD kd lo hi c ≠ none then WD kd lo hi c else some c) else WD kd lo hi c := by
  show (if kd c = 0 then _ else _) = _
  by_cases g : kd c = 0
  · rw [if_pos g, if_pos g]
    cases hw : WD kd lo hi c with
    | none =>
      rw [if_neg (fun z => z.2 rfl)]
    | some v =>
      by_cases g2 : hi c - lo c ≤ hi v - lo v
      · rw [if_pos ⟨g2, by simp⟩]
        exact if_pos g2
      · rw [if_neg (fun z => g2 z.1)]
        exact if_neg g2
  · rw [if_neg g, if_neg g]
theorem fcode_n {q : Nat} (hq : q < 6) : ¬ fcode (some q) = -1 := fun z => by
  have h := x_m1n (a := q) (by omega)
  have z' : nI q = -1 := z
  rw [h] at z'
  exact z'
theorem l_widestC (h6 : nc ≤ 6) (hX : CX kd lo hi mn mu) : ∀ (n i : Nat), i ≤ nc → nc - i < n → g_X11_widest_b6 (nI nc) hi lo kd n (fcode (WD kd lo hi i)) (WR lo hi (WD kd lo hi i)) (nI i) = some (match WD kd lo hi nc with
    | none => (3, 0)
    | some w => (0, nI w))
  | 0, i, _, h => absurd h (Nat.not_lt_zero _)
  | n + 1, i, hi', hm => by
    unfold g_X11_widest_b6 g_X11_widest_b61
    by_cases e : i = nc
    · subst e
      rw [if_pos (nI_le (Nat.le_refl _) (by omega))]
      cases hw : WD kd lo hi i with
      | none => exact if_pos rfl
      | some w =>
        have := WD_lt i w hw
        exact if_neg (fcode_n (by omega))
    · have hi6 : i < 6 := by omega
      have hin : inb (nI i) 6 = true := x_inb hi6 (by omega)
      have ih := l_widestC h6 hX n (i + 1) (by omega) (by omega)
      have ws := WD_s (kd := kd) (lo := lo) (hi := hi) i
      obtain ⟨-, b1, b2, b3, -⟩ := hX i hi6
      rw [if_neg (nI_ge (by omega) (by omega)), e_gc hin, e_gc hin, e_gl, e_gc hin, e_gl, x_cl (by omega), nI_1]
      by_cases g : kd i = 0
      · rw [if_pos g] at ws ⊢
        cases hw : WD kd lo hi i with
        | none =>
          rw [hw, if_neg (fun z => z.2 rfl)] at ws
          rw [ws] at ih
          rw [if_neg (show ¬ hi i - lo i ≤ WR lo hi none from fun z => by
            rw [Int32.le_iff_toInt_le, sub32 (by omega) (by omega) (by omega) (by omega)] at z
            have e1 : (WR lo hi none).toInt = -1 := rfl
            rw [e1] at z
            omega), e_gl]
          exact ih
        | some w =>
          rw [hw] at ws
          by_cases g2 : hi i - lo i ≤ WR lo hi (some w)
          · rw [if_pos ⟨g2, by simp⟩] at ws
            rw [ws] at ih
            rw [if_pos g2]
            exact ih
          · rw [if_neg (fun z => g2 z.1)] at ws
            rw [ws] at ih
            rw [if_neg g2, e_gl]
            exact ih
      · rw [if_neg g] at ws ⊢
        rw [ws] at ih
        exact ih
def SBo (kd : Nat → Int32) : Nat → Int32
  | 0 => 0
  | c + 1 => SBo kd c + kd c
theorem l_brothC (h6 : nc ≤ 6) (hb : ∀ c, c < 6 → bo (kd c) = true) : ∀ (n i : Nat), i ≤ nc → nc - i < n → g_X0_cauldronsOfBroth_b4 (nI nc) kd n (SBo kd i) (nI i) = some (SBo kd nc)
  | 0, i, _, h => absurd h (Nat.not_lt_zero _)
  | n + 1, i, hi', hm => by
    unfold g_X0_cauldronsOfBroth_b4 g_X0_cauldronsOfBroth_b24
    by_cases e : i = nc
    · subst e
      exact if_pos (nI_le (Nat.le_refl _) (by omega))
    · have hi6 : i < 6 := by omega
      have ih := l_brothC h6 hb n (i + 1) (by omega) (by omega)
      have es : SBo kd (i + 1) = SBo kd i + kd i := rfl
      rw [if_neg (nI_ge (by omega) (by omega)), e_gc (x_inb hi6 (by omega)), x_cl (by omega), e_gl, e_gl, e_gl, nI_1]
      rcases x_bob (hb i hi6) with z | z
      · rw [z, Int32.add_zero] at es
        rw [if_pos z, ← es]
        exact ih
      · rw [z] at es
        rw [if_neg (fun y => by rw [z] at y; exact absurd y (by decide)), ← es]
        exact ih
theorem l_dramsC (h6 : nc ≤ 6) (hX : CX kd lo hi mn mu) : ∀ (n i : Nat), i ≤ nc → nc - i < n → g_X0_allDrams_b4 (nI nc) kd mn n (SBo mn i) (nI i) = some (SBo mn nc)
  | 0, i, _, h => absurd h (Nat.not_lt_zero _)
  | n + 1, i, hi', hm => by
    unfold g_X0_allDrams_b4 g_X0_allDrams_b33
    by_cases e : i = nc
    · subst e
      exact if_pos (nI_le (Nat.le_refl _) (by omega))
    · have hi6 : i < 6 := by omega
      have hin : inb (nI i) 6 = true := x_inb hi6 (by omega)
      have ih := l_dramsC h6 hX n (i + 1) (by omega) (by omega)
      have es : SBo mn (i + 1) = SBo mn i + mn i := rfl
      obtain ⟨⟨a1, a2, a3, a4⟩, -⟩ := hX i hi6
      rw [if_neg (nI_ge (by omega) (by omega)), e_gc hin, e_gc hin, x_cl (by omega), e_gl, e_gl, e_gl, nI_1]
      by_cases z : kd i = 0
      · rw [if_pos z, ← es]
        exact ih
      · rw [show mn i = 0 from a3 z, Int32.add_zero] at es
        rw [if_neg z, ← es]
        exact ih
end
section
variable {LS : List Nat} {SE : Nat → SV} {b : BK} {s kd lo hi mn si : Nat → Int32} {f mu : Nat → UInt32} {n4 nc : Nat} {th : Int32} {ans : Nat → Int64}
theorem f2d_mag {a : UInt32} (h : FF a) : (FP.f2d a).toNat % 2 ^ 63 < 1151 * 2 ^ 52 := by
  have hfin := (Jvm.FP.Core.fin_bits32 a).mp h
  obtain ⟨c, q, g, e⟩ := SN_f2d h
  have hz := Jvm.FP.Core.zmag_bits (a := FP.f2d a) (by rw [g]; exact fun z => by cases z)
  have hz2 : Jvm.FP.Core.zmag Jvm.FP.Core.b64 (Jvm.FP.Core.val64 (FP.f2d a)) = c * 2 ^ (q + 1074).toNat := by
    rw [g]
    show Jvm.FP.Core.inUnits c q Jvm.FP.Core.b64.qmin = _
    unfold Jvm.FP.Core.inUnits
    rw [qn64, show q - -1074 = q + 1074 by omega]
  have hu : Jvm.FP.Core.unitsOf Jvm.FP.Core.b32 (a.toNat % 2 ^ 31) < 2 ^ 277 := by
    have h1 := Jvm.FP.Core.unitsOf_lt (f := Jvm.FP.Core.b32) (m := a.toNat % 2 ^ 31) (k := 255 * Jvm.FP.Core.b32.tails) (by rw [Jvm.FP.Core.tails_b32]; omega)
    rw [Jvm.FP.Core.unitsOf_start (by omega), Jvm.FP.Core.tails_b32, ← Nat.pow_add] at h1
    exact h1
  have hN : Jvm.FP.Core.unitsOf Jvm.FP.Core.b64 ((FP.f2d a).toNat % 2 ^ 63) < 2 ^ 1202 := by
    rw [← hz, hz2, ← e]
    have := Nat.mul_lt_mul_of_pos_right hu (show 0 < 2 ^ 925 from Nat.two_pow_pos _)
    rw [← Nat.pow_add] at this
    exact this
  have hs := Jvm.FP.Core.unitsOf_start (f := Jvm.FP.Core.b64) (K := 1151) (by omega)
  rw [Jvm.FP.Core.tails_b64, ← Nat.pow_add] at hs
  exact Jvm.FP.Core.unitsOf_lt_iff.mp (by rw [hs]; exact hN)
theorem mag_n {x : UInt64} {K : Nat} (h : x.toNat % 2 ^ 63 < K * 2 ^ 52) (hK : K ≤ 2047) : DF x ∧ n64 x = true := by
  have := Jvm.FP.Core.fin_of_lt h hK
  exact ⟨this, n64_of this.notNaN⟩
def ME (kd mn : Nat → Int32) (mu : Nat → UInt32) : Nat → UInt64
  | 0 => FP.dconst0
  | c + 1 => FP.dadd (ME kd mn mu c) (if kd c = 0 then FP.i2d (mn c) else FP.f2d (mu c))
theorem ME_a (hX : CX kd lo hi mn mu) {c : Nat} (hc : c < 6) : (if kd c = 0 then FP.i2d (mn c) else FP.f2d (mu c)).toNat % 2 ^ 63 < 1151 * 2 ^ 52 := by
  by_cases z : kd c = 0
  · rw [if_pos z]
    have := Jvm.FP.Core.i2d_mag (mn c)
    exact Nat.lt_of_lt_of_le this (Nat.mul_le_mul_right _ (by omega))
  · rw [if_neg z]
    exact f2d_mag (hX c hc).1.2.2.2.1
theorem ME_mag (hX : CX kd lo hi mn mu) : ∀ c, c ≤ 6 → (ME kd mn mu c).toNat % 2 ^ 63 < (1151 + 2 * c) * 2 ^ 52
  | 0, _ => by
    show (FP.dconst0).toNat % 2 ^ 63 < (1151 + 2 * 0) * 2 ^ 52
    decide
  | c + 1, hc => by
    have ih := ME_mag hX c (by omega)
    have ha := ME_a hX (c := c) (by omega)
    have ha' := Nat.lt_of_lt_of_le ha (Nat.mul_le_mul_right (2 ^ 52) (show 1151 ≤ 1151 + 2 * c by omega))
    have h := Jvm.FP.Core.dadd_mag (K := 1151 + 2 * c) ih ha' (by omega)
    rw [show 1151 + 2 * c + 2 = 1151 + 2 * (c + 1) by omega] at h
    exact h
theorem l_meanC (h6 : nc ≤ 6) (hz : nc ≠ 0) (hX : CX kd lo hi mn mu) : ∀ (n i : Nat), i ≤ nc → nc - i < n → g_X11_meanBits_b25 (nI nc) kd mn mu n (ME kd mn mu i) (nI i) = some (0, (FP.ddiv (ME kd mn mu nc) (FP.i2d (nI nc))).toInt64)
  | 0, i, _, h => absurd h (Nat.not_lt_zero _)
  | n + 1, i, hi', hm => by
    unfold g_X11_meanBits_b25 g_X11_meanBits_b83
    by_cases e : i = nc
    · subst e
      have hb := Jvm.FP.Core.i2d_big (v := nI i) (by rw [nI_toInt (by omega)]; omega)
      have hd := Jvm.FP.Core.ddiv_mag (K := 1151 + 2 * i) (L := 1023) (ME_mag hX i h6) hb.1 hb.2 (by omega) (by omega)
      obtain ⟨d1, d2⟩ := mag_n hd (by omega)
      rw [if_pos (nI_le (Nat.le_refl _) (by omega)), e_gc d2]
      exact e_gb (k_longBitsOf d1)
    · have hi6 : i < 6 := by omega
      have hin : inb (nI i) 6 = true := x_inb hi6 (by omega)
      have ih := l_meanC h6 hz hX n (i + 1) (by omega) (by omega)
      have hs := (mag_n (ME_mag hX (i + 1) (by omega)) (by omega)).2
      have ha := (mag_n (ME_a hX hi6) (by omega)).2
      have es : ME kd mn mu (i + 1) = FP.dadd (ME kd mn mu i) (if kd i = 0 then FP.i2d (mn i) else FP.f2d (mu i)) := rfl
      rw [if_neg (nI_ge (by omega) (by omega)), e_gc hin, x_cl (by omega)]
      by_cases z : kd i = 0
      · rw [if_pos z] at es
        rw [es] at hs ih
        rw [if_pos z, e_gc hin, e_gc hs, e_gl, e_gl, nI_1]
        exact ih
      · rw [if_neg z] at es ha
        rw [es] at hs ih
        rw [if_neg z, e_gc hin, e_gc ha, e_gc hs, e_gl, e_gl, nI_1]
        exact ih
end
