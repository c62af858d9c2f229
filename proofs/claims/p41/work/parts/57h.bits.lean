/-! rows of the whole claim that speak of the class alone (gen/pure1.py) -/
theorem SN_sign {s : Bool} {x : UInt64} {N : Nat} (h : SN s x N) : (2 ^ 63 ≤ x.toNat) ↔ s = true := by
  obtain ⟨c, q, h1, h2⟩ := h
  have hfin : x.toNat % 2 ^ 63 < 9218868437227405312 := (Jvm.FP.Core.fin_bits x).mp ⟨s, c, q, h1⟩
  have := Jvm.FP.Core.sgn_decode (f := Jvm.FP.Core.b64) (n := x.toNat) (by rw [Jvm.FP.Core.mag_toNat64, Jvm.FP.Core.infBits_b64]; omega) (Jvm.FP.Core.lt_full64 x)
  rw [show Jvm.FP.Core.decode Jvm.FP.Core.b64 x.toNat = Jvm.FP.Core.val64 x from rfl, h1, Jvm.FP.Core.half_b64] at this
  have h3 : s = decide (2 ^ 63 ≤ x.toNat) := this
  rw [h3, decide_eq_true_eq]
theorem SN_neg {x : UInt64} {N : Nat} (h : SN true x N) : VN (FP.dneg x) N := by
  obtain ⟨c, q, h1, h2⟩ := h
  exact ⟨c, q, by rw [Jvm.FP.val64_dneg, h1]; rfl, h2⟩
theorem SN_DF {s : Bool} {x : UInt64} {N : Nat} (h : SN s x N) : Jvm.FP.Core.DFin x := by
  obtain ⟨c, q, h1, h2⟩ := h
  exact ⟨s, c, q, h1⟩
theorem k_neg {s : Bool} {x : UInt64} {N : Nat} (h : SN s x N) : g_X5_isNegative x = some (if s = true then nI 1 else nI 0) := by
  have hn : Jvm.FP.Core.val64 x ≠ .nan := by obtain ⟨c, q, h1, h2⟩ := h; rw [h1]; exact fun z => by cases z
  have h0 : Jvm.FP.Core.val64 (0 : UInt64) ≠ .nan := by rw [Jvm.FP.Core.val64_zero]; exact fun z => by cases z
  have hs := SN_sign h
  have hk := Jvm.FP.Core.dcmp_key hn h0
  have hk0 : Jvm.FP.Core.dkey (0 : UInt64) = 0 := by decide
  rw [hk0] at hk
  have hx := x.toNat_lt
  unfold g_X5_isNegative
  rw [show FP.dcmp x FP.dconst0 = Jvm.FP.Core.dcmp x 0 from rfl, hk]
  have hd : Jvm.FP.Core.dkey x = if 2 ^ 63 ≤ x.toNat then ((2 ^ 63 : Nat) : Int) - (x.toNat : Int) else (x.toNat : Int) := rfl
  rcases Int.lt_trichotomy (Jvm.FP.Core.dkey x) 0 with g | g | g
  · have e : compare (Jvm.FP.Core.dkey x) 0 = .lt := (Jvm.FP.Core.compare_lt_iff _ _).mpr g
    have : 2 ^ 63 ≤ x.toNat := by
      rcases Nat.lt_or_ge x.toNat (2 ^ 63) with z | z
      · rw [if_neg (by omega)] at hd; omega
      · exact z
    rw [e, if_pos (hs.mp this)]
    rfl
  · have e : compare (Jvm.FP.Core.dkey x) 0 = .eq := (Jvm.FP.Core.compare_eq_iff _ _).mpr g
    rw [e]
    by_cases z : 2 ^ 63 ≤ x.toNat
    · rw [if_pos z] at hd
      have hx0 : x = 9223372036854775808 := UInt64.toNat_inj.mp (by show x.toNat = 9223372036854775808; omega)
      rw [if_pos (hs.mp z), hx0]
      have e1 : FP.ddiv FP.dconst1 (9223372036854775808 : UInt64) = 18442240474082181120 := by decide +kernel
      rw [e1]
      have e2 : FP.dcmp (18442240474082181120 : UInt64) FP.dconst0 = some .lt := by decide +kernel
      rw [e2]
      rfl
    · rw [if_neg z] at hd
      have hx0 : x = 0 := UInt64.toNat_inj.mp (by show x.toNat = 0; omega)
      have hsf : ¬ s = true := fun y => z (hs.mpr y)
      rw [if_neg hsf, hx0]
      have e1 : FP.ddiv FP.dconst1 (0 : UInt64) = 9218868437227405312 := by decide +kernel
      rw [e1]
      have e2 : FP.dcmp (9218868437227405312 : UInt64) FP.dconst0 = some .gt := by decide +kernel
      rw [e2]
      rfl
  · have e : compare (Jvm.FP.Core.dkey x) 0 = .gt := (Jvm.FP.Core.compare_gt_iff _ _).mpr g
    have hsf : ¬ s = true := fun y => by
      have := hs.mpr y
      rw [if_pos this] at hd
      omega
    rw [e, if_neg hsf]
    rfl
theorem SN_f2d {a : UInt32} (h : Jvm.FP.Core.FFin a) : SN (decide (2 ^ 31 ≤ a.toNat)) (FP.f2d a) (Jvm.FP.Core.unitsOf Jvm.FP.Core.b32 (a.toNat % 2 ^ 31) * 2 ^ 925) := by
  obtain ⟨s, c, q, h1⟩ := h
  have hfin : a.toNat % 2 ^ 31 < 2139095040 := (Jvm.FP.Core.fin_bits32 a).mp ⟨s, c, q, h1⟩
  have hs := Jvm.FP.Core.sgn_decode (f := Jvm.FP.Core.b32) (n := a.toNat) (by rw [Jvm.FP.Core.mag_toNat32, Jvm.FP.Core.infBits_b32]; omega) (Jvm.FP.Core.lt_full32 a)
  rw [show Jvm.FP.Core.decode Jvm.FP.Core.b32 a.toNat = Jvm.FP.Core.val32 a from rfl, h1, Jvm.FP.Core.half_b32] at hs
  have hs' : s = decide (2 ^ 31 ≤ a.toNat) := hs
  have hz := Jvm.FP.Core.zmag_decode Jvm.FP.Core.good_b32 (n := a.toNat) (by rw [Jvm.FP.Core.mag_toNat32, Jvm.FP.Core.infBits_b32]; omega)
  rw [show Jvm.FP.Core.decode Jvm.FP.Core.b32 a.toNat = Jvm.FP.Core.val32 a from rfl, h1, Jvm.FP.Core.mag_toNat32] at hz
  have hz' : c * 2 ^ (q - Jvm.FP.Core.b32.qmin).toNat = Jvm.FP.Core.unitsOf Jvm.FP.Core.b32 (a.toNat % 2 ^ 31) := hz
  have hf := Jvm.FP.Core.val32_fits a
  rw [h1] at hf
  obtain ⟨f1, f2, f3, f4⟩ := hf
  rw [Jvm.FP.Core.qmin_b32] at f2 hz'
  have f3' : q ≤ 104 := f3
  have f1' : c < 2 ^ 24 := f1
  rw [← hs', ← hz']
  refine VN_round (A := c) (B := 1) (e := q) ?_ (by decide) (by omega) ?_ ⟨c, (q + 149).toNat + 925, by rw [show q - -149 = q + 149 by omega, Nat.pow_add, Nat.mul_assoc], by omega, by omega⟩
  · have hnn : FP.fIsNaN a = false := (Jvm.FP.Core.notNaN_iff32 a).mpr (by rw [h1]; exact fun z => by cases z)
    rw [Jvm.FP.f2d_core hnn, Jvm.FP.Core.val64_f2d, h1]
    rfl
  · rw [Nat.mul_one, Nat.mul_assoc, Nat.mul_assoc, ← Nat.pow_add, ← Nat.pow_add]
    congr 2
    omega
theorem u32_0 {T : Nat} (h : T < 2 ^ 23) : Jvm.FP.Core.unitsOf Jvm.FP.Core.b32 T = T := if_pos (by rw [Jvm.FP.Core.tails_b32]; exact h)
theorem u32_1 {ε T : Nat} (h : T < 2 ^ 23) (he : 1 ≤ ε) : Jvm.FP.Core.unitsOf Jvm.FP.Core.b32 (ε * 2 ^ 23 + T) = (2 ^ 23 + T) * 2 ^ (ε - 1) := by
  unfold Jvm.FP.Core.unitsOf
  rw [Jvm.FP.Core.tails_b32, if_neg (by omega), show (ε * 2 ^ 23 + T) % 2 ^ 23 = T by omega, show (ε * 2 ^ 23 + T) / 2 ^ 23 = ε by omega]
theorem u64_0 {T : Nat} (h : T < 2 ^ 52) : Jvm.FP.Core.unitsOf Jvm.FP.Core.b64 T = T := if_pos (by rw [Jvm.FP.Core.tails_b64]; exact h)
theorem u64_1 {ε T : Nat} (h : T < 2 ^ 52) (he : 1 ≤ ε) : Jvm.FP.Core.unitsOf Jvm.FP.Core.b64 (ε * 2 ^ 52 + T) = (2 ^ 52 + T) * 2 ^ (ε - 1) := by
  unfold Jvm.FP.Core.unitsOf
  rw [Jvm.FP.Core.tails_b64, if_neg (by omega), show (ε * 2 ^ 52 + T) % 2 ^ 52 = T by omega, show (ε * 2 ^ 52 + T) / 2 ^ 52 = ε by omega]
theorem pow_split {a b : Nat} (h : a ≤ b) : (2 : Nat) ^ b = 2 ^ (b - a) * 2 ^ a := by rw [← Nat.pow_add, Nat.sub_add_cancel h]
theorem expScale {low : Int} (hl : -1100 ≤ low) (hl0 : low ≤ 0) {x : UInt64} {N G k : Nat} {E : Int} (hx : VN x N) (hG1 : ONE ≤ G * 2 ^ k) (hG2 : G * 2 ^ k < 2 * ONE) (hG : G < 2 ^ 53) (hk : k ≤ 1074) (hN : N * 2 ^ (-E).toNat = G * 2 ^ k * 2 ^ E.toNat) (hE1 : low ≤ E) (hE2 : E ≤ 1023) :
    g_X5_exponentOf x (iI low) = some (iI E) ∧ Ok (g_X5_scale x (iI E)) (fun y => VN y (G * 2 ^ k)) := by
  rcases Int.le_total 0 E with h | h
  · obtain ⟨m, rfl⟩ := Int.eq_ofNat_of_zero_le h
    have e1 : (-((m : Nat) : Int)).toNat = 0 := by omega
    have e2 : ((m : Nat) : Int).toNat = m := rfl
    rw [e1, e2, Nat.pow_zero, Nat.mul_one] at hN
    have hp := Nat.two_pow_pos m
    have n1 : ONE * 2 ^ m ≤ N := by rw [hN]; exact Nat.mul_le_mul_right _ hG1
    have n2 : N < 2 * ONE * 2 ^ m := by rw [hN]; exact Nat.mul_lt_mul_of_pos_right hG2 hp
    rw [iI_n (by omega)]
    refine ⟨k_expP hl hl0 hx n1 n2 (by omega), ok_m (k_scaleP hx (by omega) n1) (fun y hy => ?_)⟩
    obtain ⟨M, m1, m2⟩ := hy
    have : M = G * 2 ^ k := Nat.eq_of_mul_eq_mul_right hp (by rw [← m1, hN])
    rw [← this]
    exact m2
  · obtain ⟨m, hm⟩ : ∃ m : Nat, E = -(m : Int) := ⟨(-E).toNat, by omega⟩
    have e1 : (-E).toNat = m := by omega
    have e2 : E.toNat = 0 := by omega
    rw [e1, e2, Nat.pow_zero, Nat.mul_one] at hN
    have hr : REP (N * 2 ^ m) := ⟨G, k, hN, hG, by omega⟩
    rw [hm]
    refine ⟨k_expN hl hx hr (by rw [hN]; exact hG2) (by omega) (fun _ => by rw [hN]; exact hG1), ?_⟩
    rw [← hN]
    exact k_scaleN hx (by omega) hr (by rw [hN]; exact hG2)
theorem expScale0 {L : Nat} (hL : L ≤ 1023) {x : UInt64} {N T k : Nat} (hx : VN x N) (hT : T * 2 ^ k < ONE) (hT2 : T < 2 ^ 53) (hk : k ≤ 1074) (hN : N * 2 ^ L = T * 2 ^ k) :
    g_X5_exponentOf x (iI (-(L : Int))) = some (iI (-(L : Int))) ∧ Ok (g_X5_scale x (iI (-(L : Int)))) (fun y => VN y (T * 2 ^ k)) := by
  have hr : REP (N * 2 ^ L) := ⟨T, k, hN, hT2, by omega⟩
  refine ⟨k_expN (by omega) hx hr (by rw [hN]; omega) (Int.le_refl _) (fun z => absurd z (Int.lt_irrefl _)), ?_⟩
  rw [← hN]
  exact k_scaleN hx (by omega) hr (by rw [hN]; omega)
theorem or_add {X T i : Nat} (h : T < 2 ^ i) : X * 2 ^ i ||| T = X * 2 ^ i + T := by
  have := Nat.shiftLeft_add_eq_or_of_lt h X
  rw [Nat.shiftLeft_eq] at this
  exact this.symm
