/-! FLOATS: finite ones are never NaN when they are reckoned -/
abbrev FF (x : UInt32) : Prop := Jvm.FP.Core.FFin x
abbrev DF (x : UInt64) : Prop := Jvm.FP.Core.DFin x
theorem n32_of {x : UInt32} (h : FP.fIsNaN x = false) : n32 x = true := by
  refine decide_eq_true ?_
  have h1 : ¬ 2139095040 < x.toNat % 2 ^ 31 := fun q => by
    have := (Jvm.FP.Core.isNaN_bits32 x).mpr q
    exact absurd (this.symm.trans h) (by decide)
  rw [UInt32.le_iff_toNat_le, Jvm.FP.Core.mask_toNat32]
  have : (2139095040 : UInt32).toNat = 2139095040 := rfl
  omega
theorem n64_of {x : UInt64} (h : FP.dIsNaN x = false) : n64 x = true := by
  refine decide_eq_true ?_
  have h1 : ¬ 9218868437227405312 < x.toNat % 2 ^ 63 := fun q => by
    have := (Jvm.FP.Core.isNaN_bits x).mpr q
    exact absurd (this.symm.trans h) (by decide)
  rw [UInt64.le_iff_toNat_le, Jvm.FP.Core.mask_toNat]
  have : (9218868437227405312 : UInt64).toNat = 9218868437227405312 := rfl
  omega
theorem of_n32 {x : UInt32} (h : n32 x = true) : FP.fIsNaN x = false := by
  have h1 : x &&& 0x7fffffff ≤ 0x7f800000 := of_decide_eq_true h
  rw [UInt32.le_iff_toNat_le, Jvm.FP.Core.mask_toNat32] at h1
  have h2 : (2139095040 : UInt32).toNat = 2139095040 := rfl
  cases hc : FP.fIsNaN x with
  | false => rfl
  | true =>
    have := (Jvm.FP.Core.isNaN_bits32 x).mp hc
    omega
theorem ff_n {x : UInt32} (h : FF x) : n32 x = true := n32_of h.notNaN
theorem ff_add {x y : UInt32} (hx : FF x) (hy : FF y) : n32 (FP.fadd x y) = true := n32_of (Jvm.FP.Core.fadd_out hx.notNaN hy)
theorem ff_sub {x y : UInt32} (hx : FF x) (hy : FF y) : n32 (FP.fsub x y) = true := n32_of (Jvm.FP.Core.fsub_out hx.notNaN hy)
theorem ff_mul {x y : UInt32} (hx : FF x) (hy : FF y) : n32 (FP.fmul x y) = true := n32_of (Jvm.FP.Core.fmul_out hx hy)
theorem ff_i2f (v : Int32) : FF (FP.i2f v) := Jvm.FP.Core.i2f_fin v
theorem ff_0 : FF FP.fconst0 := (Jvm.FP.Core.fin_bits32 _).mpr (by decide)
theorem ff_div100 (v : Int32) : n32 (FP.fdiv (FP.i2f v) (1120403456 : UInt32)) = true := n32_of (Jvm.FP.Core.fdiv_out (ff_i2f v).notNaN ((Jvm.FP.Core.fin_bits32 _).mpr (by decide)) (fun h => by
  have := (Jvm.FP.Core.zero_bits232 _).mp h
  revert this
  decide))
theorem ff_hi : FF (1176255488 : UInt32) := (Jvm.FP.Core.fin_bits32 _).mpr (by decide)
theorem ff_lo : FF (3323739136 : UInt32) := (Jvm.FP.Core.fin_bits32 _).mpr (by decide)
theorem cv_g {o : Option Ordering} : Op.cmpValue o .g = FP.cmpInt 1 o := by rcases o with _ | (_ | _ | _) <;> rfl
theorem cv_l {o : Option Ordering} : Op.cmpValue o .l = FP.cmpInt (-1) o := by rcases o with _ | (_ | _ | _) <;> rfl
/-- held: the answer is finite, and both sides' programs give it -/
def hld (x : UInt32) : UInt32 := if 0 ≤ (Op.cmpValue (FP.fcmp x (3323739136 : UInt32)) .g) then (if (Op.cmpValue (FP.fcmp x (1176255488 : UInt32)) .l) ≤ 0 then x else 1176255488) else 3323739136
theorem k_X5_held (x : UInt32) : g_X5_held x = some (hld x) := by
  unfold g_X5_held hld
  simp only [e_gl]
  split
  · split <;> rfl
  · rfl
theorem fkey_const1 : Jvm.FP.Core.fkey 1176255488 = 1176255488 := by decide
theorem fkey_const2 : Jvm.FP.Core.fkey 3323739136 = -1176255488 := by decide
theorem ff_hld {x : UInt32} (h : n32 x = true) : FF (hld x) := by
  unfold hld
  split
  · rename_i h1
    split
    · rename_i h2
      have hn : Jvm.FP.Core.val32 x ≠ .nan := (Jvm.FP.Core.notNaN_iff32 x).mp (of_n32 h)
      have hh : Jvm.FP.Core.val32 1176255488 ≠ .nan := (Jvm.FP.Core.notNaN_iff32 _).mp ff_hi.notNaN
      have hl : Jvm.FP.Core.val32 3323739136 ≠ .nan := (Jvm.FP.Core.notNaN_iff32 _).mp ff_lo.notNaN
      have k1 : ¬ Jvm.FP.Core.fkey x < Jvm.FP.Core.fkey 3323739136 := fun q => by
        have := (Jvm.FP.Core.fcmp_lt_key hn hl).mpr q
        rw [show FP.fcmp x 3323739136 = some .lt from this] at h1
        revert h1; decide
      have k2 : ¬ Jvm.FP.Core.fkey 1176255488 < Jvm.FP.Core.fkey x := fun q => by
        have := (Jvm.FP.Core.fcmp_gt_key hn hh).mpr q
        rw [show FP.fcmp x 1176255488 = some .gt from this] at h2
        revert h2; decide
      rw [fkey_const1] at k2
      rw [fkey_const2] at k1
      refine (Jvm.FP.Core.fin_bits32 x).mpr ?_
      unfold Jvm.FP.Core.fkey at k1 k2
      have hx := x.toNat_lt
      split at k1 <;> omega
    · exact ff_hi
  · exact ff_lo
def clip (n : Int32) : Int32 := if ((-99) : Int32) < (if n < (99 : Int32) then n else (99 : Int32)) then (if n < (99 : Int32) then n else (99 : Int32)) else ((-99) : Int32)
theorem k_X5_toDrams (x : UInt32) : g_X5_toDrams x = some (clip (FP.f2i x)) := rfl
theorem k_X5_toBroth (v : Int32) : g_X5_toBroth v = some (hld (FP.i2f v)) := by
  unfold g_X5_toBroth
  rw [k_X5_held]
  rfl
theorem ff_toBroth (v : Int32) : FF (hld (FP.i2f v)) := ff_hld (ff_n (ff_i2f v))
/-- the reckoning of broth, by the kinds of tokens 2, 3 and others -/
def frk (k : Int32) (x y : UInt32) : UInt32 := if k = 2 then FP.fadd x y else if k = 3 then FP.fsub x y else FP.fmul x y
theorem ff_frk (k : Int32) {x y : UInt32} (hx : FF x) (hy : FF y) : n32 (frk k x y) = true := by
  unfold frk
  split
  · exact ff_add hx hy
  · split
    · exact ff_sub hx hy
    · exact ff_mul hx hy
theorem k_X5_ofBroth (k : Int32) {x y : UInt32} (hx : FF x) (hy : FF y) : g_X5_ofBroth k x y = some (hld (frk k x y)) := by
  unfold g_X5_ofBroth frk
  split
  · rw [ff_add hx hy, k_X5_held]; rfl
  · split
    · rw [ff_sub hx hy]; show g_X5_ofBroth_b26 _ = _; unfold g_X5_ofBroth_b26; rw [k_X5_held]; rfl
    · rw [ff_mul hx hy]; show g_X5_ofBroth_b26 _ = _; unfold g_X5_ofBroth_b26; rw [k_X5_held]; rfl
def lrk (k : Int32) (x y : Int64) : Int64 := if k = 2 then x + y else if k = 3 then x - y else x * y
theorem k_X5_ofDrams (k : Int32) (x y : Int64) : g_X5_ofDrams k x y = some (lrk k x y) := by
  unfold g_X5_ofDrams lrk
  split
  · rfl
  · split <;> rfl
/-- -1, 0, 1: too few, none, too many -/
def exc3 (v : Int64) : Int32 := if v < -1000000 then -1 else if 1000000 < v then 1 else 0
theorem lg_ge {x y : Int64} : (0 ≤ lg_cmp x y) = ¬ x < y := by
  unfold lg_cmp
  refine propext ?_
  by_cases h : x > y
  · rw [if_pos h]
    exact ⟨fun _ q => by rw [Int64.lt_iff_toInt_lt] at q; have h' : y < x := h; rw [Int64.lt_iff_toInt_lt] at h'; omega, fun _ => by decide⟩
  · rw [if_neg h]
    by_cases h2 : x = y
    · rw [if_pos h2]; subst h2; exact ⟨fun _ q => absurd q (by rw [Int64.lt_iff_toInt_lt]; omega), fun _ => by decide⟩
    · rw [if_neg h2]
      refine ⟨fun q => absurd q (by decide), fun q => ?_⟩
      have h3 : ¬ y < x := h
      rw [Int64.lt_iff_toInt_lt] at q h3
      exact absurd (Int64.toInt_inj.mp (by omega)) h2
theorem lg_lt {x y : Int64} : (lg_cmp x y < 0) = (x < y) := by
  have h := @lg_ge x y
  have e : (lg_cmp x y < 0) = ¬ (0 ≤ lg_cmp x y) := propext (by rw [Int32.lt_iff_toInt_lt, Int32.le_iff_toInt_le]; exact Int.not_le.symm)
  rw [e, h]; exact propext Decidable.not_not
theorem lg_le {x y : Int64} : (lg_cmp x y ≤ 0) = ¬ y < x := by
  unfold lg_cmp
  refine propext ?_
  by_cases h : x > y
  · rw [if_pos h]; exact ⟨fun q => absurd q (by decide), fun q => absurd h q⟩
  · rw [if_neg h]
    refine ⟨fun _ => h, fun _ => ?_⟩
    split <;> decide
theorem lg_gt {x y : Int64} : (0 < lg_cmp x y) = (y < x) := by
  have h := @lg_le x y
  have e : (0 < lg_cmp x y) = ¬ (lg_cmp x y ≤ 0) := propext (by rw [Int32.lt_iff_toInt_lt, Int32.le_iff_toInt_le]; exact Int.not_le.symm)
  rw [e, h]; exact propext Decidable.not_not
theorem k_X5_excess (v : Int64) : g_X5_excess v = some (exc3 v) := by
  unfold g_X5_excess exc3
  simp only [lg_ge, lg_le]
  by_cases h1 : v < -1000000
  · rw [if_neg (fun q => q h1), if_pos h1]
  · rw [if_pos h1, if_neg h1]
    by_cases h2 : (1000000 : Int64) < v
    · rw [if_neg (fun q => q h2), if_pos h2]
    · rw [if_pos h2, if_neg h2]
def lo4 (k : Int32) (a b c d : Int64) : Int64 := if k = 2 then a + c else if k = 3 then a - d else (if (if (b * d) < (b * c) then (b * d) else (b * c)) < (if (a * d) < (a * c) then (a * d) else (a * c)) then (if (b * d) < (b * c) then (b * d) else (b * c)) else (if (a * d) < (a * c) then (a * d) else (a * c)))
def hi4 (k : Int32) (a b c d : Int64) : Int64 := if k = 2 then b + d else if k = 3 then b - c else (if (if (b * d) < (b * c) then (b * c) else (b * d)) < (if (a * d) < (a * c) then (a * c) else (a * d)) then (if (a * d) < (a * c) then (a * c) else (a * d)) else (if (b * d) < (b * c) then (b * c) else (b * d)))
theorem k_X5_lowest (k : Int32) (a b c d : Int64) : g_X5_lowest k a b c d = some (lo4 k a b c d) := by
  unfold g_X5_lowest lo4
  split
  · rfl
  · split <;> rfl
theorem k_X5_highest (k : Int32) (a b c d : Int64) : g_X5_highest k a b c d = some (hi4 k a b c d) := by
  unfold g_X5_highest hi4
  split
  · rfl
  · split <;> rfl
