/-! rows of the whole claim that speak of the class alone (gen/pure1.py) -/
theorem qn64 : Jvm.FP.Core.b64.qmin = -1074 := by decide +kernel
theorem qx64 : Jvm.FP.Core.b64.qmax = 971 := by decide +kernel
theorem pp64 : Jvm.FP.Core.b64.p = 53 := rfl
theorem tl64 : Jvm.FP.Core.b64.tails = 4503599627370496 := by decide +kernel
def ONE : Nat := 2 ^ 1074
theorem one1051 : ONE = 2 ^ 23 * 2 ^ 1051 := by unfold ONE; rw [← Nat.pow_add]
theorem one1022 : ONE = 2 ^ 52 * 2 ^ 1022 := by unfold ONE; rw [← Nat.pow_add]
theorem ONE_pos : 0 < ONE := Nat.two_pow_pos _
def SN (s : Bool) (x : UInt64) (N : Nat) : Prop := ∃ c q, Jvm.FP.Core.val64 x = .fin s c q ∧ N = c * 2 ^ (q + 1074).toNat
abbrev VN (x : UInt64) (N : Nat) : Prop := SN false x N
def REP (N : Nat) : Prop := ∃ d k, N = d * 2 ^ k ∧ d < 2 ^ 53 ∧ k ≤ 2045
theorem fit64 {x : UInt64} {s : Bool} {c : Nat} {q : Int} (h : Jvm.FP.Core.val64 x = .fin s c q) : c < 2 ^ 53 ∧ -1074 ≤ q ∧ q ≤ 971 ∧ (q = -1074 ∨ 2 ^ 52 ≤ c) := by
  have := Jvm.FP.Core.val64_fits x
  rw [h] at this
  obtain ⟨h1, h2, h3, h4⟩ := this
  rw [qn64] at h2 h4
  rw [qx64] at h3
  rw [tl64] at h4
  exact ⟨h1, h2, h3, h4⟩
theorem VN_REP {x : UInt64} {N : Nat} (h : VN x N) : REP N := by
  obtain ⟨c, q, h1, h2⟩ := h
  obtain ⟨f1, f2, f3, f4⟩ := fit64 h1
  exact ⟨c, (q + 1074).toNat, h2, f1, by omega⟩
theorem nrm (s : Bool) : ∀ (k d : Nat), d < 2 ^ 53 → k ≤ 2045 → ∃ (c : Nat) (q : Int), Jvm.FP.Core.fits Jvm.FP.Core.b64 (.fin s c q) ∧ c * 2 ^ (q + 1074).toNat = d * 2 ^ k ∧ q ≤ (k : Int) - 1074
  | 0, d, hd, _ => ⟨d, -1074, ⟨hd, by rw [qn64]; exact Int.le_refl _, by rw [qx64]; decide, Or.inl qn64.symm⟩, rfl, by omega⟩
  | k + 1, d, hd, hk => by
    obtain ⟨c, q, ⟨f1, f2, f3, f4⟩, h2, h3⟩ := nrm s k d hd (by omega)
    rw [qn64] at f2 f4
    rw [tl64] at f4
    rw [pp64] at f1
    by_cases g : 4503599627370496 ≤ c
    · refine ⟨c, q + 1, ⟨f1, by rw [qn64]; omega, by rw [qx64]; omega, Or.inr (by rw [tl64]; exact g)⟩, ?_, by omega⟩
      rw [show (q + 1 + 1074).toNat = (q + 1074).toNat + 1 by omega, Nat.pow_succ, ← Nat.mul_assoc, h2, Nat.pow_succ, Nat.mul_assoc]
    · have hq : q = -1074 := f4.resolve_right g
      refine ⟨2 * c, -1074, ⟨by rw [pp64]; omega, by rw [qn64]; exact Int.le_refl _, by rw [qx64]; decide, Or.inl qn64.symm⟩, ?_, by omega⟩
      rw [hq] at h2
      have h2' : c * 1 = d * 2 ^ k := h2
      show 2 * c * 1 = d * 2 ^ (k + 1)
      rw [Nat.pow_succ, ← Nat.mul_assoc, ← h2']
      omega
theorem bal {A c a b : Nat} {e q : Int} (he : (e - q).toNat = a - b) (hq : (q - e).toNat = b - a) (h : A * 2 ^ a = c * 2 ^ b) : A * 2 ^ (e - q).toNat = c * 2 ^ (q - e).toNat := by
  rw [he, hq]
  rcases Nat.le_total a b with g | g
  · rw [Nat.sub_eq_zero_of_le g, Nat.pow_zero, Nat.mul_one]
    have : 2 ^ b = 2 ^ (b - a) * 2 ^ a := by rw [← Nat.pow_add, Nat.sub_add_cancel g]
    rw [this, ← Nat.mul_assoc] at h
    exact Nat.eq_of_mul_eq_mul_right (Nat.two_pow_pos a) h
  · rw [Nat.sub_eq_zero_of_le g, Nat.pow_zero, Nat.mul_one]
    have : 2 ^ a = 2 ^ (a - b) * 2 ^ b := by rw [← Nat.pow_add, Nat.sub_add_cancel g]
    rw [this, ← Nat.mul_assoc] at h
    exact Nat.eq_of_mul_eq_mul_right (Nat.two_pow_pos b) h
theorem VN_round {s : Bool} {y : UInt64} {A B N : Nat} {e : Int} (hy : Jvm.FP.Core.val64 y = Jvm.FP.Core.roundRatio Jvm.FP.Core.b64 s A B e) (hB : 0 < B) (he : -2200 ≤ e) (h : A * 2 ^ (e + 2200).toNat = N * B * 2 ^ 1126) (hr : REP N) : SN s y N := by
  obtain ⟨d, k, hN, hd, hk⟩ := hr
  obtain ⟨c, q, hf, h1, h2⟩ := nrm s k d hd hk
  have hq : -1074 ≤ q := by have := hf.2.1; rw [qn64] at this; exact this
  rw [← hN] at h1
  refine ⟨c, q, ?_, h1.symm⟩
  rw [hy]
  refine Jvm.FP.Core.roundRatio_exact Jvm.FP.Core.good_b64 hB hf ?_
  refine bal (a := (e + 2200).toNat) (b := (q + 2200).toNat) (by omega) (by omega) ?_
  rw [h, ← h1, show (q + 2200).toNat = (q + 1074).toNat + 1126 by omega, Nat.pow_add]
  exact (congrArg (· * 2 ^ 1126) (Nat.mul_right_comm c _ B)).trans (Nat.mul_assoc (c * B) _ _)
theorem two64 : Jvm.FP.Core.val64 (4611686018427387904 : UInt64) = .fin false (2 ^ 52) (-51) := by decide +kernel
theorem k23 : Jvm.FP.Core.val64 (4710765210229538816 : UInt64) = .fin false (2 ^ 52) (-29) := by decide +kernel
theorem k52 : Jvm.FP.Core.val64 (4841369599423283200 : UInt64) = .fin false (2 ^ 52) 0 := by decide +kernel
theorem VN_mul {x K : UInt64} {N j : Nat} (h : VN x N) (hK : Jvm.FP.Core.val64 K = .fin false (2 ^ 52) ((j : Int) - 52)) (hr : REP (N * 2 ^ j)) : VN (FP.dmul x K) (N * 2 ^ j) := by
  obtain ⟨c, q, h1, h2⟩ := h
  obtain ⟨f1, f2, f3, f4⟩ := fit64 h1
  refine VN_round (A := c * 2 ^ 52) (B := 1) (e := q + ((j : Int) - 52)) ?_ (by decide) (by omega) ?_ hr
  · rw [show FP.dmul x K = Jvm.FP.Core.dmul x K from rfl, Jvm.FP.Core.val64_dmul, h1, hK]
    rfl
  · rw [h2, Nat.mul_one, Nat.mul_assoc, ← Nat.pow_add, Nat.mul_assoc, Nat.mul_assoc, ← Nat.pow_add, ← Nat.pow_add]
    congr 2
    omega
theorem VN_half {x : UInt64} {N : Nat} (h : VN x N) (hN : 2 * ONE ≤ N) : ∃ M, N = 2 * M ∧ VN (FP.ddiv x (4611686018427387904 : UInt64)) M := by
  obtain ⟨c, q, h1, h2⟩ := h
  obtain ⟨f1, f2, f3, f4⟩ := fit64 h1
  have hk : 1023 ≤ (q + 1074).toNat := by
    rcases Nat.lt_or_ge (q + 1074).toNat 1023 with g | g
    · have g1 : 2 ^ (q + 1074).toNat ≤ 2 ^ 1022 := Nat.pow_le_pow_right (by decide) (by omega)
      have g2 : c * 2 ^ (q + 1074).toNat < 2 ^ 53 * 2 ^ 1022 := Nat.lt_of_lt_of_le (Nat.mul_lt_mul_of_pos_right f1 (Nat.two_pow_pos _)) (Nat.mul_le_mul_left _ g1)
      rw [← Nat.pow_add] at g2
      have g3 : 2 * ONE = 2 ^ (53 + 1022) := by unfold ONE; rw [Nat.mul_comm, ← Nat.pow_succ]
      rw [g3, h2] at hN
      exact absurd g2 (Nat.not_lt.mpr hN)
    · exact g
  obtain ⟨k, hk'⟩ : ∃ k, (q + 1074).toNat = k + 1 := ⟨(q + 1074).toNat - 1, by omega⟩
  have hM : N = 2 * (c * 2 ^ k) := by rw [h2, hk', Nat.pow_succ]; ac_rfl
  refine ⟨c * 2 ^ k, hM, VN_round (A := c) (B := 2 ^ 52) (e := q - (-51)) ?_ (Nat.two_pow_pos _) (by omega) ?_ ⟨c, k, rfl, f1, by omega⟩⟩
  · rw [show FP.ddiv x (4611686018427387904 : UInt64) = Jvm.FP.Core.ddiv x 4611686018427387904 from rfl, Jvm.FP.Core.val64_ddiv, h1, two64]
    show (if 2 ^ 52 = 0 then (if c = 0 then Jvm.FP.Core.Datum.nan else Jvm.FP.Core.Datum.inf (false != false)) else Jvm.FP.Core.roundRatio Jvm.FP.Core.b64 (false != false) c (2 ^ 52) (q - -51)) = _
    rw [if_neg (Nat.ne_of_gt (Nat.two_pow_pos _))]
    rfl
  · rw [Nat.mul_assoc, Nat.mul_assoc, ← Nat.pow_add, ← Nat.pow_add]
    congr 2
    omega
theorem VN_z {x : UInt64} {N : Nat} (h : VN x N) : Jvm.FP.Core.val64 x ≠ .nan ∧ Jvm.FP.Core.zval Jvm.FP.Core.b64 (Jvm.FP.Core.val64 x) = (N : Int) := by
  obtain ⟨c, q, h1, h2⟩ := h
  refine ⟨by rw [h1]; exact fun z => (by cases z), ?_⟩
  rw [h1, h2]
  show Jvm.FP.Core.signed false (Jvm.FP.Core.inUnits c q Jvm.FP.Core.b64.qmin) = _
  unfold Jvm.FP.Core.signed Jvm.FP.Core.inUnits
  rw [qn64, show q - -1074 = q + 1074 by omega]
  rfl
theorem VN_n {x : UInt64} {N : Nat} (h : VN x N) : n64 x = true := n64_of ((Jvm.FP.Core.notNaN_iff x).mpr (VN_z h).1)
theorem VN_1 : VN FP.dconst1 ONE := ⟨2 ^ 52, -52, Jvm.FP.Core.val64_dconst1, by unfold ONE; rw [← Nat.pow_add]; rfl⟩
theorem VN_2 : VN (4611686018427387904 : UInt64) (2 * ONE) := ⟨2 ^ 52, -51, two64, by unfold ONE; rw [← Nat.pow_add, Nat.mul_comm, ← Nat.pow_succ]; rfl⟩
theorem VN_0 : VN FP.dconst0 0 := ⟨0, _, Jvm.FP.Core.val64_dconst0, (Nat.zero_mul _).symm⟩
theorem VN_cmp {x y : UInt64} {M N : Nat} (hx : VN x M) (hy : VN y N) : FP.dcmp x y = some (compare (M : Int) (N : Int)) := by
  rw [show FP.dcmp x y = Jvm.FP.Core.dcmp x y from rfl, Jvm.FP.Core.dcmp_zval (VN_z hx).1 (VN_z hy).1, (VN_z hx).2, (VN_z hy).2]
theorem cmp3 (M N : Nat) : (M < N ∧ compare (M : Int) (N : Int) = .lt) ∨ (M = N ∧ compare (M : Int) (N : Int) = .eq) ∨ (N < M ∧ compare (M : Int) (N : Int) = .gt) := by
  unfold compare instOrdInt compareOfLessAndEq
  dsimp only
  rcases Nat.lt_trichotomy M N with h | h | h
  · exact Or.inl ⟨h, by rw [if_pos (by omega)]⟩
  · exact Or.inr (Or.inl ⟨h, by rw [if_neg (by omega), if_pos (by omega)]⟩)
  · exact Or.inr (Or.inr ⟨h, by rw [if_neg (by omega), if_neg (by omega)]⟩)
theorem VN_ge {x y : UInt64} {M N : Nat} (hx : VN x M) (hy : VN y N) : (0 ≤ Op.cmpValue (FP.dcmp x y) .g) ↔ N ≤ M := by
  rw [VN_cmp hx hy]
  rcases cmp3 M N with ⟨h, e⟩ | ⟨h, e⟩ | ⟨h, e⟩ <;> rw [e]
  · exact ⟨fun z => absurd z (by decide), fun z => by omega⟩
  · exact ⟨fun _ => by omega, fun _ => by decide⟩
  · exact ⟨fun _ => by omega, fun _ => by decide⟩
theorem VN_lt {x y : UInt64} {M N : Nat} (hx : VN x M) (hy : VN y N) : (Op.cmpValue (FP.dcmp x y) .l < 0) ↔ M < N := by
  rw [VN_cmp hx hy]
  rcases cmp3 M N with ⟨h, e⟩ | ⟨h, e⟩ | ⟨h, e⟩ <;> rw [e]
  · exact ⟨fun _ => h, fun _ => by decide⟩
  · exact ⟨fun z => absurd z (by decide), fun z => by omega⟩
  · exact ⟨fun z => absurd z (by decide), fun z => by omega⟩
theorem VN_eq0 {x : UInt64} {M : Nat} (hx : VN x M) : (Op.cmpValue (FP.dcmp x FP.dconst0) .l = 0) ↔ M = 0 := by
  rw [VN_cmp hx VN_0]
  rcases cmp3 M 0 with ⟨h, e⟩ | ⟨h, e⟩ | ⟨h, e⟩ <;> rw [e]
  · omega
  · exact ⟨fun _ => h, fun _ => rfl⟩
  · exact ⟨fun z => absurd z (by decide), fun z => by omega⟩
theorem VN_sub1 {r : UInt64} {R : Nat} (h : VN r R) (h1 : ONE ≤ R) (h2 : R < 2 * ONE) : VN (FP.dsub r FP.dconst1) (R - ONE) ∧ ∃ d, d < 2 ^ 52 ∧ R - ONE = d * 2 ^ 1022 := by
  obtain ⟨c, q, g1, g2⟩ := h
  obtain ⟨f1, f2, f3, f4⟩ := fit64 g1
  have hk : (q + 1074).toNat = 1022 ∧ 2 ^ 52 ≤ c := by
    have a1 : 1022 ≤ (q + 1074).toNat := by
      rcases Nat.lt_or_ge (q + 1074).toNat 1022 with g | g
      · have b1 : 2 ^ (q + 1074).toNat ≤ 2 ^ 1021 := Nat.pow_le_pow_right (by decide) (by omega)
        have b2 : c * 2 ^ (q + 1074).toNat < 2 ^ 53 * 2 ^ 1021 := Nat.lt_of_lt_of_le (Nat.mul_lt_mul_of_pos_right f1 (Nat.two_pow_pos _)) (Nat.mul_le_mul_left _ b1)
        rw [← Nat.pow_add, ← g2] at b2
        have b3 : ONE = 2 ^ (53 + 1021) := rfl
        rw [b3] at h1
        exact absurd b2 (Nat.not_lt.mpr h1)
      · exact g
    have a2 : 2 ^ 52 ≤ c := f4.resolve_left (by omega)
    refine ⟨?_, a2⟩
    rcases Nat.lt_or_ge 1022 (q + 1074).toNat with g | g
    · have b1 : 2 ^ 1023 ≤ 2 ^ (q + 1074).toNat := Nat.pow_le_pow_right (by decide) (by omega)
      have b2 : 2 ^ 52 * 2 ^ 1023 ≤ c * 2 ^ (q + 1074).toNat := Nat.mul_le_mul a2 b1
      rw [← Nat.pow_add, ← g2] at b2
      have b3 : 2 * ONE = 2 ^ (52 + 1023) := by unfold ONE; rw [Nat.mul_comm, ← Nat.pow_succ]
      rw [b3] at h2
      exact absurd h2 (Nat.not_lt.mpr b2)
    · omega
  obtain ⟨hk, hc⟩ := hk
  have hq : q = -52 := by omega
  have hR : R - ONE = (c - 2 ^ 52) * 2 ^ 1022 := by
    rw [g2, hk, Nat.sub_mul, one1022]
  refine ⟨VN_round (A := c - 2 ^ 52) (B := 1) (e := -52) ?_ (by decide) (by omega) ?_ ⟨c - 2 ^ 52, 1022, hR, by omega, by omega⟩, c - 2 ^ 52, by omega, hR⟩
  · rw [show FP.dsub r FP.dconst1 = Jvm.FP.Core.dsub r Jvm.FP.Core.dconst1 from rfl, Jvm.FP.Core.val64_dsub, g1, Jvm.FP.Core.val64_dconst1, hq]
    show Jvm.FP.Core.round Jvm.FP.Core.b64 (.fin (Jvm.FP.Core.sumSign false true (Jvm.FP.Core.sumUnits false c (-52) true (2 ^ 52) (-52) (min (-52) (-52)))) (Jvm.FP.Core.sumUnits false c (-52) true (2 ^ 52) (-52) (min (-52) (-52))).natAbs (min (-52) (-52))) = _
    have e1 : Jvm.FP.Core.sumUnits false c (-52) true (2 ^ 52) (-52) (min (-52) (-52)) = ((c - 2 ^ 52 : Nat) : Int) := by
      have e2 : Jvm.FP.Core.inUnits c (-52) (min (-52) (-52)) = c := Nat.mul_one c
      have e3 : Jvm.FP.Core.inUnits (2 ^ 52) (-52) (min (-52) (-52)) = 2 ^ 52 := Nat.mul_one _
      unfold Jvm.FP.Core.sumUnits
      rw [e2, e3]
      show (c : Int) + -((2 ^ 52 : Nat) : Int) = _
      omega
    have e4 : Jvm.FP.Core.sumSign false true ((c - 2 ^ 52 : Nat) : Int) = false := by
      unfold Jvm.FP.Core.sumSign
      split
      · rfl
      · exact decide_eq_false (by omega)
    rw [e1, e4, Int.natAbs_natCast]
    rfl
  · rw [hR, Nat.mul_one, Nat.mul_assoc, ← Nat.pow_add]
    rfl
theorem VN_trunc {y : UInt64} {N : Nat} (h : VN y N) : ∃ c q, Jvm.FP.Core.val64 y = .fin false c q ∧ Jvm.FP.Core.truncate false c q = ((N / ONE : Nat) : Int) := by
  obtain ⟨c, q, g1, g2⟩ := h
  obtain ⟨f1, f2, f3, f4⟩ := fit64 g1
  refine ⟨c, q, g1, ?_⟩
  show ((c * 2 ^ q.toNat / 2 ^ (-q).toNat : Nat) : Int) = _
  congr 1
  rw [g2]
  unfold ONE
  rcases Int.le_total 0 q with hq | hq
  · rw [show (-q).toNat = 0 by omega, Nat.pow_zero, Nat.div_one, show (q + 1074).toNat = q.toNat + 1074 by omega, Nat.pow_add, ← Nat.mul_assoc, Nat.mul_div_cancel _ (Nat.two_pow_pos _)]
  · rw [show q.toNat = 0 by omega, Nat.pow_zero, Nat.mul_one]
    have e : 2 ^ 1074 = 2 ^ (-q).toNat * 2 ^ (q + 1074).toNat := by
      rw [← Nat.pow_add]
      congr 1
      omega
    rw [e, Nat.mul_div_mul_right _ _ (Nat.two_pow_pos _)]
theorem ofI_n {n : Nat} (h : n < 2147483648) : Int32.ofInt (n : Int) = nI n := Int32.toInt_inj.mp (by rw [Int32.toInt_ofInt, nI_toInt h, show Int32.size = 4294967296 from rfl, Int.bmod_eq_of_le] <;> omega)
theorem VN_d2i {y : UInt64} {N : Nat} (h : VN y N) (hs : N / ONE < 2147483648) : FP.d2i y = nI (N / ONE) := by
  obtain ⟨c, q, g1, g2⟩ := VN_trunc h
  show Int32.ofInt (Jvm.FP.Core.toInt (-2 ^ 31) (2 ^ 31 - 1) (Jvm.FP.Core.val64 y)) = _
  rw [g1]
  show Int32.ofInt (max (-2147483648) (min 2147483647 (Jvm.FP.Core.truncate false c q))) = _
  rw [g2, Int.min_eq_right (show ((N / ONE : Nat) : Int) ≤ 2147483647 by omega), Int.max_eq_right (Int.le_trans (show (-2147483648 : Int) ≤ 0 by decide) (Int.natCast_nonneg _))]
  exact ofI_n hs
theorem VN_d2l {y : UInt64} {N : Nat} (h : VN y N) (hs : N / ONE < 9223372036854775808) : FP.d2l y = Int64.ofInt ((N / ONE : Nat) : Int) := by
  obtain ⟨c, q, g1, g2⟩ := VN_trunc h
  show Int64.ofInt (Jvm.FP.Core.toInt (-2 ^ 63) (2 ^ 63 - 1) (Jvm.FP.Core.val64 y)) = _
  rw [g1]
  show Int64.ofInt (max (-9223372036854775808) (min 9223372036854775807 (Jvm.FP.Core.truncate false c q))) = _
  rw [g2, Int.min_eq_right (show ((N / ONE : Nat) : Int) ≤ 9223372036854775807 by omega), Int.max_eq_right (Int.le_trans (show (-9223372036854775808 : Int) ≤ 0 by decide) (Int.natCast_nonneg _))]
