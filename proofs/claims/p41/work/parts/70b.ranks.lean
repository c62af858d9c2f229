/-! THE LAW's ranks holds -/
theorem bo_cases {v : Int32} (h : bo v = true) : v = 0 ∨ v = 1 := of_decide_eq_true h
theorem lg_cmp_self {x : Int64} : lg_cmp x x = 0 := by
  unfold lg_cmp
  simp
theorem nx_tab : ∀ n : Fin 5, ∀ a b c d e f : Bool, (!trB (tab a b c d e f) n.1 || (List.range n.1).all fun i => (List.range n.1).all fun j => !decide (RK (tab a b c d e f) i n.1 + 1 = RK (tab a b c d e f) j n.1) || tab a b c d e f i j) = true := by decide +kernel
theorem nx_of {A : Nat → Nat → Bool} {n : Nat} (hn : n ≤ 4) (h0 : ∀ i, i < n → A i i = false) (h1 : ∀ i j, i < n → j < n → i ≠ j → A j i = !A i j) (h2 : TRn A n) : ∀ i j, i < n → j < n → RK A i n + 1 = RK A j n → A i j = true := by
  have e : ∀ i j, i < n → j < n → A i j = tab (A 0 1) (A 0 2) (A 0 3) (A 1 2) (A 1 3) (A 2 3) i j := by
    intro i j hi hj
    have hi4 : i = 0 ∨ i = 1 ∨ i = 2 ∨ i = 3 := by omega
    have hj4 : j = 0 ∨ j = 1 ∨ j = 2 ∨ j = 3 := by omega
    rcases hi4 with rfl | rfl | rfl | rfl <;> rcases hj4 with rfl | rfl | rfl | rfl <;> first | rfl | exact h0 _ hi | exact h1 _ _ hj hi (by decide)
  have ht0 := nx_tab ⟨n, by omega⟩ (A 0 1) (A 0 2) (A 0 3) (A 1 2) (A 1 3) (A 2 3)
  have htr := tr_of (A := tab (A 0 1) (A 0 2) (A 0 3) (A 1 2) (A 1 3) (A 2 3)) (n := n) (fun i hi j hj k hk => by
    rw [← e i j hi hj, ← e j k hj hk, ← e i k hi hk]
    exact h2 i hi j hj k hk)
  rw [htr] at ht0
  intro i j hi hj hr
  have h3 := List.all_eq_true.mp (List.all_eq_true.mp ht0 i (List.mem_range.mpr hi)) j (List.mem_range.mpr hj)
  rw [RK_cg n (fun o ho => e o i ho hi), RK_cg n (fun o ho => e o j ho hj)] at hr
  rw [decide_eq_true hr] at h3
  rw [e i j hi hj]
  exact h3
theorem nx_AH (X : Nat → TX) {n : Nat} (hn : n ≤ 4) : ∀ i j, i < n → j < n → RK (AHb X) i n + 1 = RK (AHb X) j n → AHb X i j = true := by
  refine nx_of hn (fun i _ => ?_) (fun i j _ _ hij => ?_) (fun i _ j _ k _ => ?_)
  · unfold AHb
    rw [if_pos rfl, if_pos rfl]
    exact decide_eq_false (Nat.lt_irrefl i)
  · unfold AHb
    generalize (rT (X i)).1 = a at *
    generalize (rT (X j)).1 = b at *
    generalize NS (rT (X i)).2.1 a = c at *
    generalize NS (rT (X j)).2.1 b = d at *
    by_cases h1 : a = b
    · rw [if_pos h1, if_pos h1.symm]
      by_cases h2 : c = d
      · rw [if_pos h2, if_pos h2.symm, ← decide_not]
        exact decide_eq_decide.mpr (by omega)
      · rw [if_neg h2, if_neg (fun z => h2 z.symm), ← decide_not]
        exact decide_eq_decide.mpr (by omega)
    · rw [if_neg h1, if_neg (fun z => h1 z.symm), ← decide_not]
      exact decide_eq_decide.mpr (by omega)
  · unfold AHb
    generalize (rT (X i)).1 = a at *
    generalize (rT (X j)).1 = b at *
    generalize (rT (X k)).1 = a' at *
    generalize NS (rT (X i)).2.1 a = c at *
    generalize NS (rT (X j)).2.1 b = d at *
    generalize NS (rT (X k)).2.1 a' = d' at *
    intro h1 h2
    split at h1 <;> split at h2 <;> (try split at h1) <;> (try split at h2) <;> (rw [decide_eq_true_eq] at h1 h2) <;> split <;> (try split) <;> (rw [decide_eq_true_eq]) <;> omega
section PR1
variable {B : BB} {p c : Nat}
/-- the spell of a rank -/
theorem ranked_in (hp : p < B.2.2.1) (h4 : B.2.2.1 ≤ 4) : ∃ q, q < B.2.2.1 ∧ RK (AHb B.2.2.2) q B.2.2.1 = p ∧ f_ranked B (nI p) = nI q := by
  obtain ⟨q, hq, h1, h2⟩ := ue_AH B.2.2.2 h4 p hp
  refine ⟨q, hq, h1, ?_⟩
  unfold f_ranked
  rw [fx_in hp (by omega)]
  show (match RKF (AHb B.2.2.2) B.2.2.1 p B.2.2.1 with | none => (-14 : Int32) | some q => nI q) = _
  rw [RKF_is h1 h2 _ (Nat.le_refl _), if_pos hq]
theorem ranked_out {q : Int32} (h4 : B.2.2.1 ≤ 4) (ho : OUT q B.2.2.1) : f_ranked B q = -14 := by
  unfold f_ranked
  rw [fx_out (by omega) ho]
theorem of0 (hc : c < B.2.1) (h6 : B.2.1 ≤ 6) : f_of B (nI c) 0 = B.1.2.2.2.2.2.2.1 c := by
  unfold f_of
  rw [fx_in hc (by omega)]
  rfl
theorem of1 (hc : c < B.2.1) (h6 : B.2.1 ≤ 6) : f_of B (nI c) 1 = B.1.2.2.2.2.2.2.2.1 c := by
  unfold f_of
  rw [fx_in hc (by omega)]
  rfl
theorem of2 (hc : c < B.2.1) (h6 : B.2.1 ≤ 6) : f_of B (nI c) 2 = B.1.2.2.2.2.2.2.2.2.1 c := by
  unfold f_of
  rw [fx_in hc (by omega)]
  rfl
theorem of3 (hc : c < B.2.1) (h6 : B.2.1 ≤ 6) : f_of B (nI c) 3 = if B.1.2.2.2.2.2.2.1 c = 0 then B.1.2.2.2.2.1 c else FP.f2i (B.1.2.2.2.2.2.1 c) := by
  unfold f_of
  rw [fx_in hc (by omega)]
  rfl
theorem of4 (hc : c < B.2.1) (h6 : B.2.1 ≤ 6) : f_of B (nI c) 4 = B.1.2.2.2.2.2.2.2.2.2.1 c := by
  unfold f_of
  rw [fx_in hc (by omega)]
  rfl
theorem of5 (hc : c < B.2.1) (h6 : B.2.1 ≤ 6) : f_of B (nI c) 5 = nI (CH 0 c B.2.2.2 B.2.2.1) := by
  unfold f_of
  rw [fx_in hc (by omega)]
  rfl
theorem of6 (hc : c < B.2.1) (h6 : B.2.1 ≤ 6) : f_of B (nI c) 6 = nI (CH 7 c B.2.2.2 B.2.2.1) := by
  unfold f_of
  rw [fx_in hc (by omega)]
  rfl
theorem of7 (hc : c < B.2.1) (h6 : B.2.1 ≤ 6) : f_of B (nI c) 7 = -1003 := by
  unfold f_of
  rw [fx_in hc (by omega)]
  rfl
theorem of_out {q w : Int32} (h6 : B.2.1 ≤ 6) (ho : OUT q B.2.1) : f_of B q w = -1001 := by
  unfold f_of
  rw [fx_out (by omega) ho]
theorem acc3 {b9 : Int32} : f_account B b9 3 = SBo B.1.2.2.2.2.2.2.1 B.2.1 := by
  unfold f_account
  rw [if_neg (by decide), if_neg (by decide), if_neg (by decide), if_pos rfl]
theorem acc7 {b9 : Int32} : f_account B b9 7 = SBo B.1.2.2.2.2.1 B.2.1 := by
  unfold f_account
  rw [if_neg (by decide), if_neg (by decide), if_neg (by decide), if_neg (by decide), if_neg (by decide), if_neg (by decide), if_neg (by decide)]
theorem sn_n {x : UInt32} (h : n32 x = true) : vn_sni2f x.toInt32 = false := by
  have h1 : x &&& 0x7fffffff ≤ 0x7f800000 := of_decide_eq_true h
  unfold vn_sni2f
  rw [UInt32.toUInt32_toInt32]
  rw [decide_eq_false (fun z => ?_), Bool.false_and]
  rw [UInt32.le_iff_toNat_le] at h1
  have z : (0x7f800000 : UInt32) < x &&& 0x7fffffff := z
  rw [UInt32.lt_iff_toNat_lt] at z
  omega
theorem f2d_i2f_all : ∀ k : Fin 200, FP.f2d (FP.i2f (Int32.ofInt ((k.1 : Int) - 100))) = FP.i2d (Int32.ofInt ((k.1 : Int) - 100)) := by decide +kernel
theorem f2d_i2f {v : Int32} (h1 : -99 ≤ v.toInt) (h2 : v.toInt ≤ 99) : FP.f2d (FP.i2f v) = FP.i2d v := by
  have e : v = Int32.ofInt (((v.toInt + 100).toNat : Int) - 100) := by
    apply Int32.toInt_inj.mp
    have t : (Int32.size : Int) = 4294967296 := rfl
    have t2 : (Int32.size : Nat) = 4294967296 := rfl
    rw [Int32.toInt_ofInt, t2]
    rw [Int.bmod_eq_of_le] <;> omega
  have h := f2d_i2f_all ⟨(v.toInt + 100).toNat, by omega⟩
  rw [e]
  exact h
theorem ME_s {kd mn : Nat → Int32} {mu : Nat → UInt32} {c : Nat} : ME kd mn mu (c + 1) = FP.dadd (ME kd mn mu c) (if kd c = 0 then FP.i2d (mn c) else FP.f2d (mu c)) := rfl
theorem bits_u (hc : c < 6) : (f_bits B (nI c)).toUInt32 = if B.1.2.2.2.2.2.2.1 c = 0 then FP.i2f (B.1.2.2.2.2.1 c) else B.1.2.2.2.2.2.1 c := by
  unfold f_bits
  rw [UInt32.toUInt32_toInt32, nI_clamp (by omega)]
theorem me_bits (hX : CX B.1.2.2.2.2.2.2.1 B.1.2.2.2.2.2.2.2.1 B.1.2.2.2.2.2.2.2.2.1 B.1.2.2.2.2.1 B.1.2.2.2.2.2.1) (hc : c < 6) : ME B.1.2.2.2.2.2.2.1 B.1.2.2.2.2.1 B.1.2.2.2.2.2.1 (c + 1) = FP.dadd (ME B.1.2.2.2.2.2.2.1 B.1.2.2.2.2.1 B.1.2.2.2.2.2.1 c) (FP.f2d (f_bits B (nI c)).toUInt32) := by
  rw [ME_s, bits_u hc]
  obtain ⟨-, k5, k6, k7, k8⟩ := hX c hc
  by_cases z : B.1.2.2.2.2.2.2.1 c = 0
  · have := k8 z
    rw [if_pos z, if_pos z, f2d_i2f (by omega) (by omega)]
  · rw [if_neg z, if_neg z]
theorem bits_sn (hX : CX B.1.2.2.2.2.2.2.1 B.1.2.2.2.2.2.2.2.1 B.1.2.2.2.2.2.2.2.2.1 B.1.2.2.2.2.1 B.1.2.2.2.2.2.1) (hc : c < 6) : vn_sni2f (f_bits B (nI c)) = false := by
  have h : n32 (f_bits B (nI c)).toUInt32 = true := by
    rw [bits_u hc]
    obtain ⟨⟨k1, k2, k3, k4⟩, -⟩ := hX c hc
    by_cases z : B.1.2.2.2.2.2.2.1 c = 0
    · rw [if_pos z]; exact ff_n (ff_i2f _)
    · rw [if_neg z]; exact ff_n k4.1
  have := sn_n h
  rwa [Int32.toInt32_toUInt32] at this
theorem bits_fd (hX : CX B.1.2.2.2.2.2.2.1 B.1.2.2.2.2.2.2.2.1 B.1.2.2.2.2.2.2.2.2.1 B.1.2.2.2.2.1 B.1.2.2.2.2.2.1) (hc : c < 6) : n64 (FP.f2d (f_bits B (nI c)).toUInt32) = true := by
  rw [bits_u hc]
  obtain ⟨⟨k1, k2, k3, k4⟩, -⟩ := hX c hc
  by_cases z : B.1.2.2.2.2.2.2.1 c = 0
  · rw [if_pos z]; exact (mag_n (f2d_mag (ff_i2f _)) (by omega)).2
  · rw [if_neg z]; exact (mag_n (f2d_mag k4.1) (by omega)).2
end PR1
section PR2
variable {LS : List Nat} {SE : Nat → SV} {σ : AB} {K : Int32 → AB → Prop}
theorem pr_cauldrons (hB : BOK LS SE σ.1) (hz : σ.1.2.1 ≠ 0) (hK : K 1 σ) : ∀ n c, c ≤ σ.1.2.1 → σ.1.2.1 - c < n → wp_L_ranks_b123 K n (nI σ.1.2.2.1) (match WD σ.1.1.2.2.2.2.2.2.1 σ.1.1.2.2.2.2.2.2.2.1 σ.1.1.2.2.2.2.2.2.2.2.1 c with | none => -14 | some w => nI w) (SBo σ.1.1.2.2.2.2.2.2.1 c) (SBo σ.1.1.2.2.2.2.1 c) (ME σ.1.1.2.2.2.2.2.2.1 σ.1.1.2.2.2.2.1 σ.1.1.2.2.2.2.2.1 c) (nI c) σ := by
  have h6 := hB.1
  have h4 := hB.2.1
  have hX := hB.2.2.2.2.1
  intro n
  induction n with
  | zero => intro c _ h; omega
  | succ n ih =>
    intro c hc hm
    unfold wp_L_ranks_b123
    refine ⟨n8 (n := 0) (by decide), fun r12 e12 => ?_⟩
    rw [acc0] at e12
    rw [e12]
    refine ⟨fun q => ?_, fun q => ?_⟩
    · rw [nI_le9 (by omega) (by omega)] at q
      obtain rfl : c = σ.1.2.1 := by omega
      have hfin : wp_L_ranks_b335 K (1 : Int32) σ := ⟨rfl, hK⟩
      intro r13 e13
      refine ⟨fun _ => ?_, fun z => absurd (e13.trans (ranked_out h4 out_n)) z⟩
      intro r14 e14
      refine ⟨fun _ => ?_, fun z => absurd e14 z⟩
      refine ⟨n8 (n := 3) (by decide), fun r15 e15 => ?_⟩
      refine ⟨fun _ => ?_, fun z => absurd (e15.trans acc3) z⟩
      refine ⟨n8 (n := 7) (by decide), fun r16 e16 => ?_⟩
      refine ⟨fun _ => ?_, fun z => absurd (e16.trans acc7) z⟩
      refine ⟨hz, fun r17 e17 => ?_⟩
      refine ⟨n8 (n := 0) (by decide), fun r18 e18 => ?_⟩
      rw [acc0] at e18
      rw [e18]
      have hb := Jvm.FP.Core.i2d_big (v := nI σ.1.2.1) (by rw [nI_toInt (by omega)]; omega)
      have hd := Jvm.FP.Core.ddiv_mag (K := 1151 + 2 * σ.1.2.1) (L := 1023) (ME_mag hX σ.1.2.1 h6) hb.1 hb.2 (by omega) (by omega)
      obtain ⟨d1, d2⟩ := mag_n hd (by omega)
      refine ⟨d2, d1, fun _ => hfin, fun z => absurd ?_ z⟩
      rw [e17]
      exact lg_cmp_self
    · rw [nI_le9 (by omega) (by omega)] at q
      have hc' : c < σ.1.2.1 := by omega
      have hc6 : c < 6 := by omega
      obtain ⟨⟨k1, k2, k3, k4⟩, k5, k6, k7, k8⟩ := hX c hc6
      have hkd : σ.1.1.2.2.2.2.2.2.1 c = 0 ∨ σ.1.1.2.2.2.2.2.2.1 c = 1 := bo_cases k1
      have ih := ih (c + 1) (by omega) (by omega)
      have hME : ME σ.1.1.2.2.2.2.2.2.1 σ.1.1.2.2.2.2.1 σ.1.1.2.2.2.2.2.1 (c + 1) = FP.dadd (ME σ.1.1.2.2.2.2.2.2.1 σ.1.1.2.2.2.2.1 σ.1.1.2.2.2.2.2.1 c) (FP.f2d (f_bits σ.1 (nI c)).toUInt32) := me_bits hX hc6
      have hsn : vn_sni2f (f_bits σ.1 (nI c)) = false := bits_sn hX hc6
      have hfd : n64 (FP.f2d (f_bits σ.1 (nI c)).toUInt32) = true := bits_fd hX hc6
      have hsum := (mag_n (ME_mag hX (c + 1) (by omega)) (by omega)).2
      rw [hME] at hsum
      intro r20 e20
      rw [of0 hc' h6] at e20
      -- the end of a turn
      have tail : ∀ (w9 : Int32), (match WD σ.1.1.2.2.2.2.2.2.1 σ.1.1.2.2.2.2.2.2.2.1 σ.1.1.2.2.2.2.2.2.2.2.1 (c + 1) with | none => -14 | some w => nI w) = w9 → wp_L_ranks_b213 K (wp_L_ranks_b123 K n) (nI σ.1.2.2.1) (SBo σ.1.1.2.2.2.2.2.2.1 c) (SBo σ.1.1.2.2.2.2.1 c) (ME σ.1.1.2.2.2.2.2.2.1 σ.1.1.2.2.2.2.1 σ.1.1.2.2.2.2.2.1 c) (nI c) (σ.1.1.2.2.2.2.2.2.1 c) w9 σ := by
        intro w9 ew
        have last : ∀ m, m = σ.1.1.2.2.2.2.1 c → wp_L_ranks_b247 K (wp_L_ranks_b123 K n) (nI σ.1.2.2.1) w9 (SBo σ.1.1.2.2.2.2.2.2.1 (c + 1)) (ME σ.1.1.2.2.2.2.2.2.1 σ.1.1.2.2.2.2.1 σ.1.1.2.2.2.2.2.1 c) (nI c) m (SBo σ.1.1.2.2.2.2.1 c) σ := by
          intro m em v1 e1
          refine ⟨⟨c, hc', rfl⟩, fun r2 e2 => ?_⟩
          rw [e2]
          refine ⟨hsn, hfd, hsum, fun v3 e3 v4 e4 => ?_⟩
          rw [e1, e3, e4, nI_1, ← hME, em, ← ew]
          exact ih
        refine ⟨fun z => ?_, fun z => ?_⟩
        · intro v5 e5
          have e6 : v5 = SBo σ.1.1.2.2.2.2.2.2.1 (c + 1) := by
            rw [e5]
            show _ = SBo σ.1.1.2.2.2.2.2.2.1 c + σ.1.1.2.2.2.2.2.2.1 c
            rw [z]
          rw [e6]
          refine ⟨fun _ r6 e7 => ?_, fun y => absurd z y⟩
          refine last r6 ?_
          rw [e7, of3 hc' h6, if_pos z]
        · have z1 : σ.1.1.2.2.2.2.2.2.1 c = 1 := hkd.resolve_left z
          intro v5 e5
          have e6 : v5 = SBo σ.1.1.2.2.2.2.2.2.1 (c + 1) := by
            rw [e5]
            show _ = SBo σ.1.1.2.2.2.2.2.2.1 c + σ.1.1.2.2.2.2.2.2.1 c
            rw [z1]
          rw [e6]
          refine ⟨fun y => absurd y z, fun _ => ?_⟩
          exact last 0 (k3 z).symm
      have hWs : WD σ.1.1.2.2.2.2.2.2.1 σ.1.1.2.2.2.2.2.2.2.1 σ.1.1.2.2.2.2.2.2.2.2.1 (c + 1) = if σ.1.1.2.2.2.2.2.2.1 c = 0 then (match WD σ.1.1.2.2.2.2.2.2.1 σ.1.1.2.2.2.2.2.2.2.1 σ.1.1.2.2.2.2.2.2.2.2.1 c with | none => some c | some w => if σ.1.1.2.2.2.2.2.2.2.2.1 c - σ.1.1.2.2.2.2.2.2.2.1 c ≤ σ.1.1.2.2.2.2.2.2.2.2.1 w - σ.1.1.2.2.2.2.2.2.2.1 w then some w else some c) else WD σ.1.1.2.2.2.2.2.2.1 σ.1.1.2.2.2.2.2.2.2.1 σ.1.1.2.2.2.2.2.2.2.2.1 c := rfl
      have body : wp_L_ranks_b149 K (wp_L_ranks_b123 K n) (nI σ.1.2.2.1) (match WD σ.1.1.2.2.2.2.2.2.1 σ.1.1.2.2.2.2.2.2.2.1 σ.1.1.2.2.2.2.2.2.2.2.1 c with | none => -14 | some w => nI w) (SBo σ.1.1.2.2.2.2.2.2.1 c) (SBo σ.1.1.2.2.2.2.1 c) (ME σ.1.1.2.2.2.2.2.2.1 σ.1.1.2.2.2.2.1 σ.1.1.2.2.2.2.2.1 c) (nI c) (σ.1.1.2.2.2.2.2.2.1 c) σ := by
        intro r7 e7 r8 e8 v9 e9
        rw [of2 hc' h6] at e7
        rw [of1 hc' h6] at e8
        rw [e7, e8] at e9
        cases hw : WD σ.1.1.2.2.2.2.2.2.1 σ.1.1.2.2.2.2.2.2.2.1 σ.1.1.2.2.2.2.2.2.2.2.1 c with
        | none =>
          rw [hw] at hWs
          refine ⟨fun _ => ?_, fun z => absurd (by decide) z⟩
          refine ⟨fun z => ⟨fun y => absurd y (by decide), fun _ => tail _ ?_⟩, fun z => tail _ ?_⟩
          · rw [hWs, if_pos z]
          · rw [hWs, if_neg z]
        | some w =>
          have hwl := WD_lt c w hw
          rw [hw] at hWs
          refine ⟨fun z => absurd (nI_pos (by omega)) (fun y => y z), fun _ => ?_⟩
          intro r10 e10 r11 e11
          rw [of2 (by omega) h6] at e10
          rw [of1 (by omega) h6] at e11
          rw [e9, e10, e11]
          refine ⟨fun y => ?_, fun y => ?_⟩
          · refine ⟨fun z => ⟨fun _ => tail _ ?_, fun u => absurd rfl u⟩, fun z => tail _ ?_⟩
            · rw [show WD σ.1.1.2.2.2.2.2.2.1 σ.1.1.2.2.2.2.2.2.2.1 σ.1.1.2.2.2.2.2.2.2.2.1 (c + 1) = some w from hWs.trans ((if_pos z).trans (if_pos y))]
            · rw [hWs, if_neg z]
          · refine ⟨fun z => ⟨fun u => absurd u (by decide), fun _ => tail _ ?_⟩, fun z => tail _ ?_⟩
            · rw [show WD σ.1.1.2.2.2.2.2.2.1 σ.1.1.2.2.2.2.2.2.2.1 σ.1.1.2.2.2.2.2.2.2.2.1 (c + 1) = some c from hWs.trans ((if_pos z).trans (if_neg y))]
            · rw [hWs, if_neg z]
      refine ⟨fun z => ?_, fun z => ?_⟩
      · rw [← z, e20]; exact body
      · have z0 : σ.1.1.2.2.2.2.2.2.1 c = 0 := hkd.resolve_right (fun y => z (e20.trans y))
        have b0 := body
        rw [z0] at b0
        exact b0
theorem pr_spells (hB : BOK LS SE σ.1) (hz : σ.1.2.1 ≠ 0) (hK : K 1 σ) : ∀ n p, p ≤ σ.1.2.2.1 → σ.1.2.2.1 - p < n → ∀ b, ((p = 0 ∧ b = -1) ∨ ∃ q, q < σ.1.2.2.1 ∧ RK (AHb σ.1.2.2.2) q σ.1.2.2.1 + 1 = p ∧ b = nI q) → wp_L_ranks_b10 K n (nI σ.1.2.2.1) b (nI p) σ := by
  have h4 := hB.2.1
  intro n
  induction n with
  | zero => intro p _ h; omega
  | succ n ih =>
    intro p hp hm b hb
    unfold wp_L_ranks_b10
    refine ⟨fun c => ?_, fun c => ?_⟩
    · exact pr_cauldrons hB hz hK 7 0 (Nat.zero_le _) (by have := hB.1; omega)
    · rw [nI_le9 (by omega) (by omega)] at c
      have hp' : p < σ.1.2.2.1 := by omega
      obtain ⟨q, hq, hr, e9⟩ := ranked_in hp' h4
      intro r24 e24
      have e24 : r24 = nI q := e24.trans e9
      subst e24
      have h24 := rS24 hB hq
      have hns := NS_le (rS σ.1 q).2.1 (rS σ.1 q).1
      have go : wp_L_ranks_b99 K (wp_L_ranks_b10 K n) (nI σ.1.2.2.1) (nI p) (nI q) σ := by
        intro v e
        rw [e, nI_1]
        exact ih (p + 1) (by omega) (by omega) _ (Or.inr ⟨q, hq, by omega, rfl⟩)
      refine ⟨fun _ => ?_, fun z => absurd (nI_pos' (by omega)) z⟩
      rcases hb with ⟨hp0, eb⟩ | ⟨q0, hq0, hr0, eb⟩
      · rw [eb]
        refine ⟨fun z => absurd z (by decide), fun _ => ?_⟩
        refine ⟨fun z => absurd z (by decide), fun _ => ?_⟩
        exact ⟨fun z => absurd z (by decide), fun _ => ⟨fun z => absurd z (by decide), fun _ => go⟩⟩
      · rw [eb]
        have h24' := rS24 hB hq0
        have hns' := NS_le (rS σ.1 q0).2.1 (rS σ.1 q0).1
        have hA := nx_AH σ.1.2.2.2 h4 q0 q hq0 hq (hr0.trans hr.symm)
        refine ⟨fun _ => ?_, fun z => absurd (nI_pos' (by omega)) z⟩
        intro r25 e25 r26 e26
        rw [sp0 hq h4] at e25
        rw [sp0 hq0 h4] at e26
        rw [e25, e26]
        have hs1 : (nI (rS σ.1 q).1 - nI (rS σ.1 q0).1).toInt = ((rS σ.1 q).1 : Int) - (rS σ.1 q0).1 := pk_sub_toInt (by omega) (by omega)
        have hs2 : (nI (NS (rS σ.1 q0).2.1 (rS σ.1 q0).1) - nI (NS (rS σ.1 q).2.1 (rS σ.1 q).1)).toInt = (NS (rS σ.1 q0).2.1 (rS σ.1 q0).1 : Int) - NS (rS σ.1 q).2.1 (rS σ.1 q).1 := pk_sub_toInt (by omega) (by omega)
        have t0 : (0 : Int32).toInt = 0 := rfl
        have hA' : (if (rS σ.1 q0).1 = (rS σ.1 q).1 then (if NS (rS σ.1 q0).2.1 (rS σ.1 q0).1 = NS (rS σ.1 q).2.1 (rS σ.1 q).1 then decide (q0 < q) else decide (NS (rS σ.1 q).2.1 (rS σ.1 q).1 < NS (rS σ.1 q0).2.1 (rS σ.1 q0).1)) else decide ((rS σ.1 q0).1 < (rS σ.1 q).1)) = true := hA
        refine ⟨fun z => ?_, fun z => ?_⟩
        · have z1 := congrArg Int32.toInt z
          rw [hs1, t0] at z1
          rw [if_pos (by omega)] at hA'
          intro r22 e22 r23 e23
          rw [sp1 hq0 h4] at e22
          rw [sp1 hq h4] at e23
          rw [e22, e23]
          refine ⟨fun y => ?_, fun _ => ⟨fun y => ?_, fun _ => go⟩⟩
          · rw [Int32.lt_iff_toInt_lt, hs2, t0] at y
            split at hA'
            · omega
            · have := of_decide_eq_true hA'; omega
          · have y1 := congrArg Int32.toInt y
            rw [hs2, t0] at y1
            rw [if_pos (by omega)] at hA'
            have := of_decide_eq_true hA'
            refine ⟨fun _ => go, fun u => absurd ((nI_le9 (by omega) (by omega)).mpr (by omega)) u⟩
        · have z1 : (rS σ.1 q0).1 ≠ (rS σ.1 q).1 := fun y => z (by apply Int32.toInt_inj.mp; rw [hs1, t0]; omega)
          rw [if_neg z1] at hA'
          have := of_decide_eq_true hA'
          refine ⟨fun y => ?_, fun _ => ⟨fun y => absurd y z, fun _ => go⟩⟩
          rw [Int32.lt_iff_toInt_lt, hs1, t0] at y
          omega
theorem pr_ranks (hB : BOK LS SE σ.1) (hz : σ.1.2.1 ≠ 0) (hK : K 1 σ) : wp_L_ranks K σ := by
  have h4 := hB.2.1
  refine ⟨n8 (n := 1) (by decide), fun r27 e27 => ?_⟩
  rw [e27, acc1]
  exact pr_spells hB hz hK 5 0 (Nat.zero_le _) (by omega) _ (Or.inl ⟨rfl, rfl⟩)
end PR2
