/-! HELD: broth that is held tells a whole number of at most four digits -/
def HBd (x : UInt32) : Prop := -9999 ≤ (FP.f2i x).toInt ∧ (FP.f2i x).toInt ≤ 9999
theorem zv_hi : Jvm.FP.Core.zval Jvm.FP.Core.b32 (Jvm.FP.Core.val32 1176255488) = ((9999 : Nat) : Int) * (Jvm.FP.Core.one32 : Int) := by decide +kernel
theorem zv_lo : Jvm.FP.Core.zval Jvm.FP.Core.b32 (Jvm.FP.Core.val32 3323739136) = -(((9999 : Nat) : Int) * (Jvm.FP.Core.one32 : Int)) := by decide +kernel
theorem hb_0 : HBd 0 := by unfold HBd; decide +kernel
theorem hb_hi : HBd 1176255488 := by unfold HBd; decide +kernel
theorem hb_lo : HBd 3323739136 := by unfold HBd; decide +kernel
theorem hb_hld {x : UInt32} (h : n32 x = true) : HBd (hld x) := by
  have hn : Jvm.FP.Core.val32 x ≠ .nan := (Jvm.FP.Core.notNaN_iff32 x).mp (of_n32 h)
  have hh : Jvm.FP.Core.val32 1176255488 ≠ .nan := (Jvm.FP.Core.notNaN_iff32 _).mp ff_hi.notNaN
  have hl : Jvm.FP.Core.val32 3323739136 ≠ .nan := (Jvm.FP.Core.notNaN_iff32 _).mp ff_lo.notNaN
  unfold hld
  split
  · rename_i h1
    split
    · rename_i h2
      have k1 : ¬ Jvm.FP.Core.zval Jvm.FP.Core.b32 (Jvm.FP.Core.val32 x) < Jvm.FP.Core.zval Jvm.FP.Core.b32 (Jvm.FP.Core.val32 3323739136) := fun q => by
        have := Jvm.FP.Core.fcmp_lt.mpr ⟨hn, hl, q⟩
        rw [show FP.fcmp x 3323739136 = some .lt from this] at h1
        revert h1; decide
      have k2 : ¬ Jvm.FP.Core.zval Jvm.FP.Core.b32 (Jvm.FP.Core.val32 1176255488) < Jvm.FP.Core.zval Jvm.FP.Core.b32 (Jvm.FP.Core.val32 x) := fun q => by
        have := Jvm.FP.Core.fcmp_gt.mpr ⟨hn, hh, q⟩
        rw [show FP.fcmp x 1176255488 = some .gt from this] at h2
        revert h2; decide
      rw [zv_lo] at k1
      rw [zv_hi] at k2
      have hv := Jvm.FP.Core.f2i_val hn
      have hp := Jvm.FP.Core.one32_pos
      unfold HBd
      rw [show (FP.f2i x).toInt = _ from hv]
      have e : Jvm.FP.Core.zval Jvm.FP.Core.b32 (Jvm.FP.Core.val32 x) = Jvm.FP.Core.signed (Jvm.FP.Core.sgn (Jvm.FP.Core.val32 x)) (Jvm.FP.Core.zmag Jvm.FP.Core.b32 (Jvm.FP.Core.val32 x)) := rfl
      rw [e] at k1 k2
      revert k1 k2
      generalize Jvm.FP.Core.sgn (Jvm.FP.Core.val32 x) = sg
      generalize Jvm.FP.Core.zmag Jvm.FP.Core.b32 (Jvm.FP.Core.val32 x) = m
      generalize Jvm.FP.Core.one32 = P at hp
      intro k1 k2
      have hm : m ≤ 9999 * P := by
        cases sg
        · simp only [Jvm.FP.Core.signed, Bool.false_eq_true, if_false] at k2
          rw [← Int.natCast_mul] at k2
          omega
        · simp only [Jvm.FP.Core.signed, if_true] at k1
          rw [← Int.natCast_mul] at k1
          omega
      have hd : m / P ≤ 9999 := Nat.div_le_of_le_mul (by rw [Nat.mul_comm]; exact hm)
      generalize m / P = d at hd
      cases sg
      · simp only [Jvm.FP.Core.signed, Bool.false_eq_true, if_false]
        omega
      · simp only [Jvm.FP.Core.signed, if_true]
        omega
    · exact hb_hi
  · exact hb_lo
/-- finite and held -/
def FH (x : UInt32) : Prop := FF x ∧ HBd x
theorem fh_0 : FH 0 := ⟨ff_0, hb_0⟩
theorem fh_hld {x : UInt32} (h : n32 x = true) : FH (hld x) := ⟨ff_hld h, hb_hld h⟩
def CANH (a : CV) : Prop := bo a.1 = true ∧ (a.1 = 0 → a.2.2 = 0) ∧ (a.1 ≠ 0 → a.2.1 = 0) ∧ FH a.2.2
theorem CANH.can {a : CV} (h : CANH a) : CAN a := ⟨h.1, h.2.1, h.2.2.1, h.2.2.2.1⟩
theorem CAN.held {a : CV} (h : CAN a) (hb : FH a.2.2) : CANH a := ⟨h.1, h.2.1, h.2.2.1, hb⟩
theorem CANH_d (v : Int32) : CANH (0, v, 0) := (CAN_d v).held fh_0
theorem CANH_b {x : UInt32} (h : FH x) : CANH (1, 0, x) := (CAN_b h.1).held h
section HELDV
variable {kd lo hi : Nat → Int32} {CN : Nat → CV} {k w : Nat → Nat} {T : Nat}
theorem hv_NW {V : Nat → Option CV} {p c : Nat} (hC : FH (CN c).2.2) (hV : ∀ q, q < p → ∀ a, V q = some a → FH a.2.2) {a : CV} (h : NWv CN k w V p c = some a) : FH a.2.2 := by
  unfold NWv at h
  cases hl : LA k w c p with
  | none => rw [hl] at h; cases h; exact hC
  | some q => rw [hl] at h; exact hV q (LA_lt p q hl) a h
theorem hv_all (hw : ∀ p, p < T → (k p = 0 ∨ k p = 7) → w p < 6) (hC : ∀ c, c < 6 → FH (CN c).2.2) : ∀ p, p ≤ T → ∀ q a, VG (ckP kd lo hi CN k w) p q = some a → FH a.2.2
  | 0, _, q, a, h => by cases h
  | p + 1, hp, q, a, h => by
    have ih := hv_all hw hC p (by omega)
    by_cases e : q = p
    · subst e
      have h1 : ckP kd lo hi CN k w q (VG (ckP kd lo hi CN k w) q) = some a := by
        have : VG (ckP kd lo hi CN k w) (q + 1) q = ckP kd lo hi CN k w q (VG (ckP kd lo hi CN k w) q) := if_pos rfl
        rw [← this]; exact h
      unfold ckP ckOp at h1
      by_cases k0 : k q = 0
      · rw [if_pos k0] at h1
        exact hv_NW (hC _ (hw q (by omega) (Or.inl k0))) (fun r _ b hb => ih r b hb) h1
      rw [if_neg k0] at h1
      by_cases k1 : k q = 1
      · rw [if_pos k1] at h1; cases h1; exact fh_0
      rw [if_neg k1] at h1
      by_cases k5 : k q = 5
      · rw [if_pos k5] at h1
        obtain ⟨x, -, h2⟩ := Option.bind_eq_some_iff.mp h1
        split at h2
        · cases h2
        · cases h2; exact fh_hld (ff_n (ff_i2f _))
      rw [if_neg k5] at h1
      by_cases k6 : k q = 6
      · rw [if_pos k6] at h1
        obtain ⟨x, -, h2⟩ := Option.bind_eq_some_iff.mp h1
        split at h2
        · cases h2
        · cases h2; exact fh_0
      rw [if_neg k6] at h1
      by_cases k7 : k q = 7
      · rw [if_pos k7] at h1
        obtain ⟨x, hx, h2⟩ := Option.bind_eq_some_iff.mp h1
        unfold stC at h2
        have := ih _ x hx
        split at h2
        · split at h2
          · split at h2
            · cases h2; exact this
            · cases h2
          · cases h2; exact this
        · cases h2
      rw [if_neg k7] at h1
      obtain ⟨x, hx, h2⟩ := Option.bind_eq_some_iff.mp h1
      obtain ⟨y, hy, h3⟩ := Option.bind_eq_some_iff.mp h2
      have f1 := ih _ x hx
      have f2 := ih _ y hy
      unfold rkC at h3
      split at h3
      · split at h3
        · split at h3
          · cases h3; exact fh_0
          · cases h3
        · cases h3; exact fh_hld (ff_frk _ f1.1 f2.1)
      · cases h3
    · have h1 : VG (ckP kd lo hi CN k w) (p + 1) q = VG (ckP kd lo hi CN k w) p q := if_neg e
      rw [h1] at h
      exact ih q a h
theorem hv_nwO (hw : ∀ p, p < T → (k p = 0 ∨ k p = 7) → w p < 6) (hC : ∀ c, c < 6 → FH (CN c).2.2) {c : Nat} (hc : c < 6) {a : CV} (h : nwO kd lo hi CN k w T c = some a) : FH a.2.2 :=
  hv_NW (hC c hc) (fun q hq b hb => hv_all hw hC (q + 1) (by omega) q b hb) h
end HELDV
